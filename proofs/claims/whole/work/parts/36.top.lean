def f_X10_led_21 (q : zq) : Nat → Int32 → Bool → Int32 → Int32 → Int32 → zU → Option ((String ⊕ Int32) × zq × zU)
  | 0, _, _, _, _, _, _ => none
  | n + 1, x1, x2, x3, x4, x5, u =>
    if x5 < 0 then (if x2 = true then (some (.inr x4, q, u)) else (some (.inr x3, q, u))) else ((f_X2_told 36 x5 (2 : Int32) u).bind (fun r5 => if r5 = x1 then ((f_X2_told 36 x5 (0 : Int32) u).bind (fun r6 => f_X10_led_21 q n x1 x2 (x3 + (1 : Int32)) r6 (x5 + (-1 : Int32)) u)) else (f_X10_led_21 q n x1 x2 x3 x4 (x5 + (-1 : Int32)) u)))
theorem f_X10_led_21_s (q : zq) (n : Nat) (x1 : Int32) (x2 : Bool) (x3 : Int32) (x4 : Int32) (x5 : Int32) (u : zU) : f_X10_led_21 q (n + 1) x1 x2 x3 x4 x5 u = if x5 < 0 then (if x2 = true then (some (.inr x4, q, u)) else (some (.inr x3, q, u))) else ((f_X2_told 36 x5 (2 : Int32) u).bind (fun r5 => if r5 = x1 then ((f_X2_told 36 x5 (0 : Int32) u).bind (fun r6 => f_X10_led_21 q n x1 x2 (x3 + (1 : Int32)) r6 (x5 + (-1 : Int32)) u)) else (f_X10_led_21 q n x1 x2 x3 x4 (x5 + (-1 : Int32)) u))) := rfl
def f_X10_led (q : zq) (a1 : Int32) (a2 : Bool) (u : zU) : Option ((String ⊕ Int32) × zq × zU) :=
  z_bx (f_X10_needRider (q) a1 u) (fun w1 q3 u2 => z_let ((u2 36 2) - (1 : Int32)) (fun z4 => f_X10_led_21 q3 5000 a1 a2 (0 : Int32) (-1 : Int32) z4 u2))
set_option maxRecDepth 100000 in
set_option maxHeartbeats 4000000 in
theorem l_X10_led_21 {l : Launch} {D : zD} {A : Nat → Prop} {b : Nat} {p : Program} {e : Env} {s : State} {m : MethodId} {args : Array Value} {below : List Frame} {meth : Method} {c : Code} {G : zG} {q : zq} {v : Int32} {q' : zq} {u' : zU} (C0 : z_C p c cX10_led s m args yX10_led.cls D A) (hr : meth.sig.returnType = (some .int)) (hml : c.maxLocals = 6) (hlk : meth.locks = false) (hT : zTop G q) : ∀ (n : Nat) (x1 : Int32) (x2 : Bool) (x3 : Int32) (x4 : Int32) (x5 : Int32) (u : zU) (H : Heap) (locs : List Loc) (ls : Array Slot), f_X10_led_21 q n x1 x2 x3 x4 x5 u = some (.inr v, q', u') → z_W D A b (zg G q) u H → va_S A s.heap H locs → lv_has ls 6 [(0, .ref (b + 0)), (1, .int x1), (2, .int (bI x2)), (3, .int x3), (4, .int x4), (5, .int x5)] → W p l e { frames := 7, cells := 0, slots := 0, locals := 111 } s m args below meth c H locs 0 0 (z_EndT D A b G below args s (some (.int v)) q' u') (F0 m 21 ls []) := by
  have hx := C0.1
  have hb := C0.2.1
  have hs := hT.1
  intro n
  induction n with
  | zero => intro x1 x2 x3 x4 x5 u H locs ls h hW hS hl; cases h
  | succ n ih =>
    intro x1 x2 x3 x4 x5 u H locs ls h hW hS hl
    rw [f_X10_led_21_s] at h
    refine lv_iload hx hb dX10_led_21 (lv_at hl 5 rfl) ?_
    refine lv_if_lt (tgt := 61) hx hb dX10_led_23 (by decide) (fun hc => ?_) (fun hc => ?_)
    · replace h := z_t h hc
      clear hc
      refine lv_iload_n hx hb dX10_led_61 rfl (lv_at hl 2 rfl) ?_
      refine z_ifeqZ C0 (tgt := 70) dX10_led_62 (by decide) (fun hc => ?_) (fun hc => ?_)
      · replace h := z_ff h hc
        clear hc
        refine lv_iload_n hx hb dX10_led_70 rfl (lv_at hl 3 rfl) ?_
        cases h
        exact z_iretT C0 hr hlk hW hS hT dX10_led_71
      · replace h := z_t h hc
        clear hc
        refine lv_iload hx hb dX10_led_65 (lv_at hl 4 rfl) ?_
        refine lv_goto (tgt := 71) hx hb dX10_led_67 (by decide) ?_
        cases h
        exact z_iretT C0 hr hlk hW hS hT dX10_led_71
    · replace h := z_f h hc
      clear hc
      refine lv_aload_n hx hb dX10_led_26 rfl (lv_at hl 0 rfl) ?_
      refine z_getr (o := 36) C0 hW fl_X10_56 (zk1 (hs 0 (by decide))) rfl (zk3 (hs 0 (by decide)) 6) dX10_led_27 ?_
      refine lv_iload hx hb dX10_led_30 (lv_at hl 5 rfl) ?_
      refine lv_iconst (v := (2 : Int32)) hx hb dX10_led_32 (by decide) ?_
      replace h := z_bd h
      obtain ⟨r5, hq, h⟩ := h
      refine z_cvi (As := [.int x5, .int (2 : Int32)]) C0 hml hl.1 hW hS (c_X2_told l D A b (zg G q) 36 hT.2.2.1 x5 (2 : Int32) u hq) mv_X10_341 hT.2.2.1.1 ⟨Nat.le_of_ble_eq_true rfl, Nat.le_of_ble_eq_true rfl⟩ rfl rfl (Nat.le_of_ble_eq_true rfl) dX10_led_33 (fun H locs hW hS => ?_)
      clear hq
      refine lv_iload_n hx hb dX10_led_36 rfl (lv_at hl 1 rfl) ?_
      refine lv_icmp_ne (tgt := 55) hx hb dX10_led_37 (by decide) (fun hc => ?_) (fun hc => ?_)
      · replace h := z_f h hc
        clear hc
        refine lv_iinc (v := x5 + (-1 : Int32)) (lv' := [(5, .int (x5 + (-1 : Int32))), (0, .ref (b + 0)), (1, .int x1), (2, .int (bI x2)), (3, .int x3), (4, .int x4)]) hx hb dX10_led_55 hl (k := 5) rfl rfl (by decide) rfl (fun ls hl => ?_)
        refine lv_goto (tgt := 21) hx hb dX10_led_58 (by decide) ?_
        exact ih _ _ _ _ _ _ _ _ _ h hW hS (lv_sub hl [1, 2, 3, 4, 5, 0] rfl)
      · replace h := z_t h hc
        clear hc
        refine lv_iinc (v := x3 + (1 : Int32)) (lv' := [(3, .int (x3 + (1 : Int32))), (0, .ref (b + 0)), (1, .int x1), (2, .int (bI x2)), (4, .int x4), (5, .int x5)]) hx hb dX10_led_40 hl (k := 3) rfl rfl (by decide) rfl (fun ls hl => ?_)
        refine lv_aload_n hx hb dX10_led_43 rfl (lv_at hl 1 rfl) ?_
        refine z_getr (o := 36) C0 hW fl_X10_56 (zk1 (hs 0 (by decide))) rfl (zk3 (hs 0 (by decide)) 6) dX10_led_44 ?_
        refine lv_iload hx hb dX10_led_47 (lv_at hl 5 rfl) ?_
        refine lv_iconst (v := (0 : Int32)) hx hb dX10_led_49 (by decide) ?_
        replace h := z_bd h
        obtain ⟨r6, hq, h⟩ := h
        refine z_cvi (As := [.int x5, .int (0 : Int32)]) C0 hml hl.1 hW hS (c_X2_told l D A b (zg G q) 36 hT.2.2.1 x5 (0 : Int32) u hq) mv_X10_341 hT.2.2.1.1 ⟨Nat.le_of_ble_eq_true rfl, Nat.le_of_ble_eq_true rfl⟩ rfl rfl (Nat.le_of_ble_eq_true rfl) dX10_led_50 (fun H locs hW hS => ?_)
        clear hq
        refine lv_istore (lv' := [(4, .int r6), (3, .int (x3 + (1 : Int32))), (0, .ref (b + 0)), (1, .int x1), (2, .int (bI x2)), (5, .int x5)]) hx hb dX10_led_53 hl (by decide) rfl (fun ls hl => ?_)
        refine lv_iinc (v := x5 + (-1 : Int32)) (lv' := [(5, .int (x5 + (-1 : Int32))), (4, .int r6), (3, .int (x3 + (1 : Int32))), (0, .ref (b + 0)), (1, .int x1), (2, .int (bI x2))]) hx hb dX10_led_55 hl (k := 5) rfl rfl (by decide) rfl (fun ls hl => ?_)
        refine lv_goto (tgt := 21) hx hb dX10_led_58 (by decide) ?_
        exact ih _ _ _ _ _ _ _ _ _ h hW hS (lv_sub hl [3, 4, 5, 2, 1, 0] rfl)
theorem f_X10_led_e (q : zq) (a1 : Int32) (a2 : Bool) (u : zU) : f_X10_led q a1 a2 u = z_bx (f_X10_needRider (q) a1 u) (fun w1 q3 u2 => z_let ((u2 36 2) - (1 : Int32)) (fun z4 => f_X10_led_21 q3 5000 a1 a2 (0 : Int32) (-1 : Int32) z4 u2)) := rfl
set_option maxRecDepth 100000 in
set_option maxHeartbeats 4000000 in
theorem c_X10_led (l : Launch) (D : zD) (A : Nat → Prop) (b : Nat) (G : zG) (q : zq) (hT : zTop G q) (a1 : Int32) (a2 : Bool) (u : zU) {v : Int32} {q' : zq} {u' : zU} (h : f_X10_led q a1 a2 u = some (.inr v, q', u')) : z_MT l D A b G yX10_led cX10_led 6 (some .int) 7 111 [.ref (b + 0), .int a1, .int (bI a2)] q u (some (.int v)) q' u' := by
  refine z_enterT (by decide) (Nat.le_of_ble_eq_true rfl) ?_
  intro p e s m below meth c ls C0 hr hml hlk hW hS hl
  have hl : lv_has ls 6 [(0, .ref (b + 0)), (1, .int a1), (2, .int (bI a2))] := hl
  have hx := C0.1
  have hb := C0.2.1
  have hs := hT.1
  rw [f_X10_led_e] at h
  refine lv_aload_n hx hb dX10_led_0 rfl (lv_at hl 0 rfl) ?_
  refine lv_iload_n hx hb dX10_led_1 rfl (lv_at hl 1 rfl) ?_
  replace h := z_bxd h
  rcases h with ⟨E1, hq, hE⟩ | ⟨w1, q3, u2, hq, h⟩
  · cases hE
  · refine z_cvTv (As := [.int a1]) C0 hml hl.1 hW hS (c_X10_needRider l D A b G (q) hT a1 u hq) mv_X10_136 (zk1 (hs 0 (by decide))) ⟨Nat.le_of_ble_eq_true rfl, Nat.le_of_ble_eq_true rfl⟩ rfl rfl (Nat.le_of_ble_eq_true rfl) dX10_led_2 (fun H locs hW hS hT => ?_)
    clear hq
    have hs := hT.1
    refine lv_iconst (v := (0 : Int32)) hx hb dX10_led_5 (by decide) ?_
    refine lv_istore_n (lv' := [(3, .int (0 : Int32)), (0, .ref (b + 0)), (1, .int a1), (2, .int (bI a2))]) hx hb dX10_led_6 rfl hl (by decide) rfl (fun ls hl => ?_)
    refine lv_iconst (v := (-1 : Int32)) hx hb dX10_led_7 (by decide) ?_
    refine lv_istore (lv' := [(4, .int (-1 : Int32)), (3, .int (0 : Int32)), (0, .ref (b + 0)), (1, .int a1), (2, .int (bI a2))]) hx hb dX10_led_8 hl (by decide) rfl (fun ls hl => ?_)
    refine lv_aload_n hx hb dX10_led_10 rfl (lv_at hl 2 rfl) ?_
    refine z_getr (o := 36) C0 hW fl_X10_56 (zk1 (hs 0 (by decide))) rfl (zk3 (hs 0 (by decide)) 6) dX10_led_11 ?_
    refine z_geti C0 hW fl_X10_260 hT.2.2.1.1 rfl dX10_led_14 ?_
    refine lv_iconst (v := (1 : Int32)) hx hb dX10_led_17 (by decide) ?_
    refine lv_isub hx hb dX10_led_18 ?_
    refine lv_topi (fun z4 e1 => ?_)
    replace h := z_ly h e1
    clear e1
    refine lv_istore (lv' := [(5, .int z4), (4, .int (-1 : Int32)), (3, .int (0 : Int32)), (0, .ref (b + 0)), (1, .int a1), (2, .int (bI a2))]) hx hb dX10_led_19 hl (by decide) rfl (fun ls hl => ?_)
    exact l_X10_led_21 C0 hr hml hlk hT 5000 _ _ _ _ _ _ _ _ _ h hW hS (lv_sub hl [3, 4, 5, 2, 1, 0] rfl)
set_option maxRecDepth 100000 in
set_option maxHeartbeats 4000000 in
theorem lx_X10_led_21 {l : Launch} {D : zD} {A : Nat → Prop} {b : Nat} {p : Program} {e : Env} {s : State} {m : MethodId} {args : Array Value} {below : List Frame} {meth : Method} {c : Code} {G : zG} {q : zq} {E : String} {q' : zq} {u' : zU} (C0 : z_C p c cX10_led s m args yX10_led.cls D A) (hex : ∀ x ∈ c.exceptionTable.toList, False) (hml : c.maxLocals = 6) (hlk : meth.locks = false) (hT : zTop G q) (hst : l.stackTraces = false) : ∀ (n : Nat) (x1 : Int32) (x2 : Bool) (x3 : Int32) (x4 : Int32) (x5 : Int32) (u : zU) (H : Heap) (locs : List Loc) (ls : Array Slot), f_X10_led_21 q n x1 x2 x3 x4 x5 u = some (.inl E, q', u') → z_W D A b (zg G q) u H → va_S A s.heap H locs → lv_has ls 6 [(0, .ref (b + 0)), (1, .int x1), (2, .int (bI x2)), (3, .int x3), (4, .int x4), (5, .int x5)] → W p l e { frames := 7, cells := 1, slots := 6, locals := 111 } s m args below meth c H locs 0 0 (z_EndX D A b G below args s E q' u') (F0 m 21 ls []) := by
  have hx := C0.1
  have hb := C0.2.1
  have hs := hT.1
  intro n
  induction n with
  | zero => intro x1 x2 x3 x4 x5 u H locs ls h hW hS hl; cases h
  | succ n ih =>
    intro x1 x2 x3 x4 x5 u H locs ls h hW hS hl
    rw [f_X10_led_21_s] at h
    refine lv_iload hx hb dX10_led_21 (lv_at hl 5 rfl) ?_
    refine lv_if_lt (tgt := 61) hx hb dX10_led_23 (by decide) (fun hc => ?_) (fun hc => ?_)
    · replace h := z_t h hc
      clear hc
      refine lv_iload_n hx hb dX10_led_61 rfl (lv_at hl 2 rfl) ?_
      refine z_ifeqZ C0 (tgt := 70) dX10_led_62 (by decide) (fun hc => ?_) (fun hc => ?_)
      · replace h := z_ff h hc
        clear hc
        refine lv_iload_n hx hb dX10_led_70 rfl (lv_at hl 3 rfl) ?_
        cases h
      · replace h := z_t h hc
        clear hc
        refine lv_iload hx hb dX10_led_65 (lv_at hl 4 rfl) ?_
        refine lv_goto (tgt := 71) hx hb dX10_led_67 (by decide) ?_
        cases h
    · replace h := z_f h hc
      clear hc
      refine lv_aload_n hx hb dX10_led_26 rfl (lv_at hl 0 rfl) ?_
      refine z_getr (o := 36) C0 hW fl_X10_56 (zk1 (hs 0 (by decide))) rfl (zk3 (hs 0 (by decide)) 6) dX10_led_27 ?_
      refine lv_iload hx hb dX10_led_30 (lv_at hl 5 rfl) ?_
      refine lv_iconst (v := (2 : Int32)) hx hb dX10_led_32 (by decide) ?_
      replace h := z_bd h
      obtain ⟨r5, hq, h⟩ := h
      refine z_cvi (As := [.int x5, .int (2 : Int32)]) C0 hml hl.1 hW hS (c_X2_told l D A b (zg G q) 36 hT.2.2.1 x5 (2 : Int32) u hq) mv_X10_341 hT.2.2.1.1 ⟨Nat.le_of_ble_eq_true rfl, Nat.le_of_ble_eq_true rfl⟩ rfl rfl (Nat.le_of_ble_eq_true rfl) dX10_led_33 (fun H locs hW hS => ?_)
      clear hq
      refine lv_iload_n hx hb dX10_led_36 rfl (lv_at hl 1 rfl) ?_
      refine lv_icmp_ne (tgt := 55) hx hb dX10_led_37 (by decide) (fun hc => ?_) (fun hc => ?_)
      · replace h := z_f h hc
        clear hc
        refine lv_iinc (v := x5 + (-1 : Int32)) (lv' := [(5, .int (x5 + (-1 : Int32))), (0, .ref (b + 0)), (1, .int x1), (2, .int (bI x2)), (3, .int x3), (4, .int x4)]) hx hb dX10_led_55 hl (k := 5) rfl rfl (by decide) rfl (fun ls hl => ?_)
        refine lv_goto (tgt := 21) hx hb dX10_led_58 (by decide) ?_
        exact ih _ _ _ _ _ _ _ _ _ h hW hS (lv_sub hl [1, 2, 3, 4, 5, 0] rfl)
      · replace h := z_t h hc
        clear hc
        refine lv_iinc (v := x3 + (1 : Int32)) (lv' := [(3, .int (x3 + (1 : Int32))), (0, .ref (b + 0)), (1, .int x1), (2, .int (bI x2)), (4, .int x4), (5, .int x5)]) hx hb dX10_led_40 hl (k := 3) rfl rfl (by decide) rfl (fun ls hl => ?_)
        refine lv_aload_n hx hb dX10_led_43 rfl (lv_at hl 1 rfl) ?_
        refine z_getr (o := 36) C0 hW fl_X10_56 (zk1 (hs 0 (by decide))) rfl (zk3 (hs 0 (by decide)) 6) dX10_led_44 ?_
        refine lv_iload hx hb dX10_led_47 (lv_at hl 5 rfl) ?_
        refine lv_iconst (v := (0 : Int32)) hx hb dX10_led_49 (by decide) ?_
        replace h := z_bd h
        obtain ⟨r6, hq, h⟩ := h
        refine z_cvi (As := [.int x5, .int (0 : Int32)]) C0 hml hl.1 hW hS (c_X2_told l D A b (zg G q) 36 hT.2.2.1 x5 (0 : Int32) u hq) mv_X10_341 hT.2.2.1.1 ⟨Nat.le_of_ble_eq_true rfl, Nat.le_of_ble_eq_true rfl⟩ rfl rfl (Nat.le_of_ble_eq_true rfl) dX10_led_50 (fun H locs hW hS => ?_)
        clear hq
        refine lv_istore (lv' := [(4, .int r6), (3, .int (x3 + (1 : Int32))), (0, .ref (b + 0)), (1, .int x1), (2, .int (bI x2)), (5, .int x5)]) hx hb dX10_led_53 hl (by decide) rfl (fun ls hl => ?_)
        refine lv_iinc (v := x5 + (-1 : Int32)) (lv' := [(5, .int (x5 + (-1 : Int32))), (4, .int r6), (3, .int (x3 + (1 : Int32))), (0, .ref (b + 0)), (1, .int x1), (2, .int (bI x2))]) hx hb dX10_led_55 hl (k := 5) rfl rfl (by decide) rfl (fun ls hl => ?_)
        refine lv_goto (tgt := 21) hx hb dX10_led_58 (by decide) ?_
        exact ih _ _ _ _ _ _ _ _ _ h hW hS (lv_sub hl [3, 4, 5, 2, 1, 0] rfl)
set_option maxRecDepth 100000 in
set_option maxHeartbeats 4000000 in
theorem t_X10_led (l : Launch) (D : zD) (A : Nat → Prop) (b : Nat) (G : zG) (q : zq) (hT : zTop G q) (hst : l.stackTraces = false) (a1 : Int32) (a2 : Bool) (u : zU) {E : String} {q' : zq} {u' : zU} (h : f_X10_led q a1 a2 u = some (.inl E, q', u')) : z_TX l D A b G yX10_led cX10_led 6 (some .int) 7 111 [.ref (b + 0), .int a1, .int (bI a2)] q u E q' u' := by
  refine z_enterX (by decide) (Nat.le_of_ble_eq_true rfl) ?_
  intro p e s m below meth c ls C0 hex hml hlk hW hS hl
  have hl : lv_has ls 6 [(0, .ref (b + 0)), (1, .int a1), (2, .int (bI a2))] := hl
  have hx := C0.1
  have hb := C0.2.1
  have hs := hT.1
  rw [f_X10_led_e] at h
  refine lv_aload_n hx hb dX10_led_0 rfl (lv_at hl 0 rfl) ?_
  refine lv_iload_n hx hb dX10_led_1 rfl (lv_at hl 1 rfl) ?_
  replace h := z_bxd h
  rcases h with ⟨E1, hq, hE⟩ | ⟨w1, q3, u2, hq, h⟩
  · cases hE
    exact z_cvX (As := [.int a1]) C0 hml hl.1 hW hS hex hlk (t_X10_needRider l D A b G (q) hT hst a1 u hq) mv_X10_136 (zk1 (hs 0 (by decide))) ⟨Nat.le_of_ble_eq_true rfl, Nat.le_of_ble_eq_true rfl⟩ ⟨Nat.le_of_ble_eq_true rfl, Nat.le_of_ble_eq_true rfl⟩ rfl rfl (Nat.le_of_ble_eq_true rfl) dX10_led_2
  · refine z_cvTv (As := [.int a1]) C0 hml hl.1 hW hS (c_X10_needRider l D A b G (q) hT a1 u hq) mv_X10_136 (zk1 (hs 0 (by decide))) ⟨Nat.le_of_ble_eq_true rfl, Nat.le_of_ble_eq_true rfl⟩ rfl rfl (Nat.le_of_ble_eq_true rfl) dX10_led_2 (fun H locs hW hS hT => ?_)
    clear hq
    have hs := hT.1
    refine lv_iconst (v := (0 : Int32)) hx hb dX10_led_5 (by decide) ?_
    refine lv_istore_n (lv' := [(3, .int (0 : Int32)), (0, .ref (b + 0)), (1, .int a1), (2, .int (bI a2))]) hx hb dX10_led_6 rfl hl (by decide) rfl (fun ls hl => ?_)
    refine lv_iconst (v := (-1 : Int32)) hx hb dX10_led_7 (by decide) ?_
    refine lv_istore (lv' := [(4, .int (-1 : Int32)), (3, .int (0 : Int32)), (0, .ref (b + 0)), (1, .int a1), (2, .int (bI a2))]) hx hb dX10_led_8 hl (by decide) rfl (fun ls hl => ?_)
    refine lv_aload_n hx hb dX10_led_10 rfl (lv_at hl 2 rfl) ?_
    refine z_getr (o := 36) C0 hW fl_X10_56 (zk1 (hs 0 (by decide))) rfl (zk3 (hs 0 (by decide)) 6) dX10_led_11 ?_
    refine z_geti C0 hW fl_X10_260 hT.2.2.1.1 rfl dX10_led_14 ?_
    refine lv_iconst (v := (1 : Int32)) hx hb dX10_led_17 (by decide) ?_
    refine lv_isub hx hb dX10_led_18 ?_
    refine lv_topi (fun z4 e1 => ?_)
    replace h := z_ly h e1
    clear e1
    refine lv_istore (lv' := [(5, .int z4), (4, .int (-1 : Int32)), (3, .int (0 : Int32)), (0, .ref (b + 0)), (1, .int a1), (2, .int (bI a2))]) hx hb dX10_led_19 hl (by decide) rfl (fun ls hl => ?_)
    exact lx_X10_led_21 C0 hex hml hlk hT hst 5000 _ _ _ _ _ _ _ _ _ h hW hS (lv_sub hl [3, 4, 5, 2, 1, 0] rfl)
def f_X10_lean (q : zq)  (u : zU) : Option (Int32) :=
  (f_X10_leanWithout (q) (0 : Int32) u).bind (fun r1 => some r1)
theorem f_X10_lean_e (q : zq)  (u : zU) : f_X10_lean q u = (f_X10_leanWithout (q) (0 : Int32) u).bind (fun r1 => some r1) := rfl
set_option maxRecDepth 100000 in
set_option maxHeartbeats 4000000 in
theorem c_X10_lean (l : Launch) (D : zD) (A : Nat → Prop) (b : Nat) (G : zG) (q : zq) (hT : zTop G q)  (u : zU) {v : Int32} (h : f_X10_lean q u = some v) : z_M l D A b (zg G q) yX10_lean cX10_lean 1 (some .int) 3 66 [.ref (b + 0)] u (some (.int v)) u := by
  refine z_enter (by decide) (Nat.le_of_ble_eq_true rfl) ?_
  intro p e s m below meth c ls C0 hr hml hlk hW hS hl
  have hl : lv_has ls 1 [(0, .ref (b + 0))] := hl
  have hx := C0.1
  have hb := C0.2.1
  have hs := hT.1
  rw [f_X10_lean_e] at h
  refine lv_aload_n hx hb dX10_lean_0 rfl (lv_at hl 0 rfl) ?_
  refine lv_iconst (v := (0 : Int32)) hx hb dX10_lean_1 (by decide) ?_
  replace h := z_bd h
  obtain ⟨r1, hq, h⟩ := h
  refine z_cvi (As := [.int (0 : Int32)]) C0 hml hl.1 hW hS (c_X10_leanWithout l D A b G (q) hT (0 : Int32) u hq) mv_X10_350 (zk1 (hs 0 (by decide))) ⟨Nat.le_of_ble_eq_true rfl, Nat.le_of_ble_eq_true rfl⟩ rfl rfl (Nat.le_of_ble_eq_true rfl) dX10_lean_2 (fun H locs hW hS => ?_)
  clear hq
  cases h
  exact z_iret C0 hr hlk hW hS dX10_lean_5
def f_X10_seat_21 (q : zq) : Nat → Int32 → Int32 → Int32 → Int32 → Int32 → zU → Option ((String ⊕ Int32) × zq × zU)
  | 0, _, _, _, _, _, _ => none
  | n + 1, x1, x2, x3, x4, x5, u =>
    if (8 : Int32) ≤ x5 then (some (.inr x3, q, u)) else (z_let (f_X9_lever 6 (q 0) x5 u) (fun r5 => if z_in x1 8 = true then (z_let (u 8 (x1).toNatClampNeg) (fun z6 => z_let (z_abs (x2 + (r5 * z6))) (fun z7 => if z_in x1 8 = true then (z_let (u 7 (x1).toNatClampNeg) (fun z8 => if z8 = x5 then (if x3 = (-1 : Int32) then (f_X10_seat_21 q n x1 x2 x5 z7 (x5 + (1 : Int32)) u) else (if x4 ≤ z7 then (f_X10_seat_21 q n x1 x2 x3 x4 (x5 + (1 : Int32)) u) else (f_X10_seat_21 q n x1 x2 x5 z7 (x5 + (1 : Int32)) u))) else ((f_X9_isOpen 6 (q 0) x5 u).bind (fun t9 => if t9 = true then (if x3 = (-1 : Int32) then (f_X10_seat_21 q n x1 x2 x5 z7 (x5 + (1 : Int32)) u) else (if x4 ≤ z7 then (f_X10_seat_21 q n x1 x2 x3 x4 (x5 + (1 : Int32)) u) else (f_X10_seat_21 q n x1 x2 x5 z7 (x5 + (1 : Int32)) u))) else (f_X10_seat_21 q n x1 x2 x3 x4 (x5 + (1 : Int32)) u))))) else none))) else none))
theorem f_X10_seat_21_s (q : zq) (n : Nat) (x1 : Int32) (x2 : Int32) (x3 : Int32) (x4 : Int32) (x5 : Int32) (u : zU) : f_X10_seat_21 q (n + 1) x1 x2 x3 x4 x5 u = if (8 : Int32) ≤ x5 then (some (.inr x3, q, u)) else (z_let (f_X9_lever 6 (q 0) x5 u) (fun r5 => if z_in x1 8 = true then (z_let (u 8 (x1).toNatClampNeg) (fun z6 => z_let (z_abs (x2 + (r5 * z6))) (fun z7 => if z_in x1 8 = true then (z_let (u 7 (x1).toNatClampNeg) (fun z8 => if z8 = x5 then (if x3 = (-1 : Int32) then (f_X10_seat_21 q n x1 x2 x5 z7 (x5 + (1 : Int32)) u) else (if x4 ≤ z7 then (f_X10_seat_21 q n x1 x2 x3 x4 (x5 + (1 : Int32)) u) else (f_X10_seat_21 q n x1 x2 x5 z7 (x5 + (1 : Int32)) u))) else ((f_X9_isOpen 6 (q 0) x5 u).bind (fun t9 => if t9 = true then (if x3 = (-1 : Int32) then (f_X10_seat_21 q n x1 x2 x5 z7 (x5 + (1 : Int32)) u) else (if x4 ≤ z7 then (f_X10_seat_21 q n x1 x2 x3 x4 (x5 + (1 : Int32)) u) else (f_X10_seat_21 q n x1 x2 x5 z7 (x5 + (1 : Int32)) u))) else (f_X10_seat_21 q n x1 x2 x3 x4 (x5 + (1 : Int32)) u))))) else none))) else none)) := rfl
def f_X10_seat (q : zq) (a1 : Int32) (u : zU) : Option ((String ⊕ Int32) × zq × zU) :=
  z_bx (f_X10_needRider (q) a1 u) (fun w1 q3 u2 => (f_X10_leanWithout (q3) ((1 : Int32) <<< (a1 &&& 31)) u2).bind (fun r4 => f_X10_seat_21 q3 5000 a1 r4 (-1 : Int32) (0 : Int32) (0 : Int32) u2))
set_option maxRecDepth 100000 in
set_option maxHeartbeats 4000000 in
theorem l_X10_seat_21 {l : Launch} {D : zD} {A : Nat → Prop} {b : Nat} {p : Program} {e : Env} {s : State} {m : MethodId} {args : Array Value} {below : List Frame} {meth : Method} {c : Code} {G : zG} {q : zq} {v : Int32} {q' : zq} {u' : zU} (C0 : z_C p c cX10_seat s m args yX10_seat.cls D A) (hr : meth.sig.returnType = (some .int)) (hml : c.maxLocals = 8) (hlk : meth.locks = false) (hT : zTop G q) : ∀ (n : Nat) (x1 : Int32) (x2 : Int32) (x3 : Int32) (x4 : Int32) (x5 : Int32) (u : zU) (H : Heap) (locs : List Loc) (ls : Array Slot), f_X10_seat_21 q n x1 x2 x3 x4 x5 u = some (.inr v, q', u') → z_W D A b (zg G q) u H → va_S A s.heap H locs → lv_has ls 8 [(0, .ref (b + 0)), (1, .int x1), (2, .int x2), (3, .int x3), (4, .int x4), (5, .int x5)] → W p l e { frames := 7, cells := 0, slots := 0, locals := 111 } s m args below meth c H locs 0 0 (z_EndT D A b G below args s (some (.int v)) q' u') (F0 m 21 ls []) := by
  have hx := C0.1
  have hb := C0.2.1
  have hs := hT.1
  intro n
  induction n with
  | zero => intro x1 x2 x3 x4 x5 u H locs ls h hW hS hl; cases h
  | succ n ih =>
    intro x1 x2 x3 x4 x5 u H locs ls h hW hS hl
    rw [f_X10_seat_21_s] at h
    refine lv_iload hx hb dX10_seat_21 (lv_at hl 5 rfl) ?_
    refine lv_bipush (v := (8 : Int32)) hx hb dX10_seat_23 (by decide) ?_
    refine lv_icmp_ge (tgt := 117) hx hb dX10_seat_25 (by decide) (fun hc => ?_) (fun hc => ?_)
    · replace h := z_t h hc
      clear hc
      refine lv_iload_n hx hb dX10_seat_117 rfl (lv_at hl 3 rfl) ?_
      cases h
      exact z_iretT C0 hr hlk hW hS hT dX10_seat_118
    · replace h := z_f h hc
      clear hc
      refine lv_iload_n hx hb dX10_seat_28 rfl (lv_at hl 2 rfl) ?_
      refine lv_aload_n hx hb dX10_seat_29 rfl (lv_at hl 0 rfl) ?_
      refine z_getr (o := 6) C0 hW fl_X10_28 (zk1 (hs 0 (by decide))) rfl (zk3 (hs 0 (by decide)) 2) dX10_seat_30 ?_
      refine lv_iload hx hb dX10_seat_33 (lv_at hl 5 rfl) ?_
      obtain ⟨r5, hq⟩ : ∃ y, f_X9_lever 6 (q 0) x5 u = y := ⟨_, rfl⟩
      replace h := z_lz h hq
      refine z_cvi (As := [.int x5]) C0 hml hl.1 hW hS (c_X9_lever l D A b (zg G q) 6 (q 0) (zT0 hT) x5 u hq) mv_X10_353 (zT0 hT).1 ⟨Nat.le_of_ble_eq_true rfl, Nat.le_of_ble_eq_true rfl⟩ rfl rfl (Nat.le_of_ble_eq_true rfl) dX10_seat_35 (fun H locs hW hS => ?_)
      clear hq
      refine lv_aload_n hx hb dX10_seat_38 rfl (lv_at hl 0 rfl) ?_
      refine z_getr (o := 6) C0 hW fl_X10_28 (zk1 (hs 0 (by decide))) rfl (zk3 (hs 0 (by decide)) 2) dX10_seat_39 ?_
      refine z_getr (o := 8) C0 hW fl_X10_143 (zT0 hT).1 rfl ((zT0 hT).2.1 1 (by decide)).1 dX10_seat_42 ?_
      refine lv_iload_n hx hb dX10_seat_45 rfl (lv_at hl 1 rfl) ?_
      replace h := z_if h
      obtain ⟨hin, h⟩ := h
      refine z_iald (n := 8) C0 hW ((zT0 hT).2.1 1 (by decide)).2.1 ((zT0 hT).2.1 1 (by decide)).2.2 hin rfl dX10_seat_46 ?_
      clear hin
      refine lv_topi (fun z6 e1 => ?_)
      replace h := z_ly h e1
      clear e1
      refine lv_imul hx hb dX10_seat_47 ?_
      refine lv_iadd hx hb dX10_seat_48 ?_
      refine va_mabs hx hb (hml.trans hl.1.symm) C0.2.2.2.1 (C0.2.2.1 _ w_mm_X10_356) (C0.2.2.1 _ w_mst_abs) (C0.2.2.1 _ w_min_Math) (C0.2.2.1 _ w_mco_abs) (Nat.le_of_ble_eq_true rfl) (Nat.le_of_ble_eq_true rfl) (Nat.zero_le _) (Nat.zero_le _) dX10_seat_49 ?_
      refine lv_topi (fun z7 e1 => ?_)
      replace h := z_ly h e1
      clear e1
      refine lv_istore (lv' := [(6, .int z7), (0, .ref (b + 0)), (1, .int x1), (2, .int x2), (3, .int x3), (4, .int x4), (5, .int x5)]) hx hb dX10_seat_52 hl (by decide) rfl (fun ls hl => ?_)
      refine lv_aload_n hx hb dX10_seat_54 rfl (lv_at hl 1 rfl) ?_
      refine z_getr (o := 6) C0 hW fl_X10_28 (zk1 (hs 0 (by decide))) rfl (zk3 (hs 0 (by decide)) 2) dX10_seat_55 ?_
      refine z_getr (o := 7) C0 hW fl_X10_139 (zT0 hT).1 rfl ((zT0 hT).2.1 0 (by decide)).1 dX10_seat_58 ?_
      refine lv_iload_n hx hb dX10_seat_61 rfl (lv_at hl 2 rfl) ?_
      replace h := z_if h
      obtain ⟨hin, h⟩ := h
      refine z_iald (n := 8) C0 hW ((zT0 hT).2.1 0 (by decide)).2.1 ((zT0 hT).2.1 0 (by decide)).2.2 hin rfl dX10_seat_62 ?_
      clear hin
      refine lv_topi (fun z8 e1 => ?_)
      replace h := z_ly h e1
      clear e1
      refine lv_iload hx hb dX10_seat_63 (lv_at hl 6 rfl) ?_
      refine lv_icmp_eq (tgt := 80) hx hb dX10_seat_65 (by decide) (fun hc => ?_) (fun hc => ?_)
      · replace h := z_t h hc
        clear hc
        refine lv_iconst (v := (1 : Int32)) hx hb dX10_seat_80 (by decide) ?_
        refine lv_goto (tgt := 85) hx hb dX10_seat_81 (by decide) ?_
        refine lv_istore (lv' := [(7, .int (1 : Int32)), (6, .int z7), (0, .ref (b + 0)), (1, .int x1), (2, .int x2), (3, .int x3), (4, .int x4), (5, .int x5)]) hx hb dX10_seat_85 hl (by decide) rfl (fun ls hl => ?_)
        refine lv_iload hx hb dX10_seat_87 (lv_at hl 0 rfl) ?_
        refine lv_if_eq (tgt := 111) hx hb dX10_seat_89 (by decide) (fun hc => ?_) (fun hc => ?_)
        · exact absurd hc (by decide)
        · clear hc
          refine lv_iload_n hx hb dX10_seat_92 rfl (lv_at hl 5 rfl) ?_
          refine lv_iconst (v := (-1 : Int32)) hx hb dX10_seat_93 (by decide) ?_
          refine lv_icmp_eq (tgt := 104) hx hb dX10_seat_94 (by decide) (fun hc => ?_) (fun hc => ?_)
          · replace h := z_t h hc
            clear hc
            refine lv_iload hx hb dX10_seat_104 (lv_at hl 7 rfl) ?_
            refine lv_istore_n (lv' := [(3, .int x5), (7, .int (1 : Int32)), (6, .int z7), (0, .ref (b + 0)), (1, .int x1), (2, .int x2), (4, .int x4), (5, .int x5)]) hx hb dX10_seat_106 rfl hl (by decide) rfl (fun ls hl => ?_)
            refine lv_iload hx hb dX10_seat_107 (lv_at hl 2 rfl) ?_
            refine lv_istore (lv' := [(4, .int z7), (3, .int x5), (7, .int (1 : Int32)), (6, .int z7), (0, .ref (b + 0)), (1, .int x1), (2, .int x2), (5, .int x5)]) hx hb dX10_seat_109 hl (by decide) rfl (fun ls hl => ?_)
            refine lv_iinc (v := x5 + (1 : Int32)) (lv' := [(5, .int (x5 + (1 : Int32))), (4, .int z7), (3, .int x5), (7, .int (1 : Int32)), (6, .int z7), (0, .ref (b + 0)), (1, .int x1), (2, .int x2)]) hx hb dX10_seat_111 hl (k := 7) rfl rfl (by decide) rfl (fun ls hl => ?_)
            refine lv_goto (tgt := 21) hx hb dX10_seat_114 (by decide) ?_
            exact ih _ _ _ _ _ _ _ _ _ h hW hS (lv_sub hl [5, 6, 7, 2, 1, 0] rfl)
          · replace h := z_f h hc
            clear hc
            refine lv_iload hx hb dX10_seat_97 (lv_at hl 1 rfl) ?_
            refine lv_iload hx hb dX10_seat_99 (lv_at hl 6 rfl) ?_
            refine lv_icmp_ge (tgt := 111) hx hb dX10_seat_101 (by decide) (fun hc => ?_) (fun hc => ?_)
            · replace h := z_t h hc
              clear hc
              refine lv_iinc (v := x5 + (1 : Int32)) (lv' := [(5, .int (x5 + (1 : Int32))), (7, .int (1 : Int32)), (6, .int z7), (0, .ref (b + 0)), (1, .int x1), (2, .int x2), (3, .int x3), (4, .int x4)]) hx hb dX10_seat_111 hl (k := 7) rfl rfl (by decide) rfl (fun ls hl => ?_)
              refine lv_goto (tgt := 21) hx hb dX10_seat_114 (by decide) ?_
              exact ih _ _ _ _ _ _ _ _ _ h hW hS (lv_sub hl [3, 4, 5, 6, 7, 0] rfl)
            · replace h := z_f h hc
              clear hc
              refine lv_iload hx hb dX10_seat_104 (lv_at hl 7 rfl) ?_
              refine lv_istore_n (lv' := [(3, .int x5), (7, .int (1 : Int32)), (6, .int z7), (0, .ref (b + 0)), (1, .int x1), (2, .int x2), (4, .int x4), (5, .int x5)]) hx hb dX10_seat_106 rfl hl (by decide) rfl (fun ls hl => ?_)
              refine lv_iload hx hb dX10_seat_107 (lv_at hl 2 rfl) ?_
              refine lv_istore (lv' := [(4, .int z7), (3, .int x5), (7, .int (1 : Int32)), (6, .int z7), (0, .ref (b + 0)), (1, .int x1), (2, .int x2), (5, .int x5)]) hx hb dX10_seat_109 hl (by decide) rfl (fun ls hl => ?_)
              refine lv_iinc (v := x5 + (1 : Int32)) (lv' := [(5, .int (x5 + (1 : Int32))), (4, .int z7), (3, .int x5), (7, .int (1 : Int32)), (6, .int z7), (0, .ref (b + 0)), (1, .int x1), (2, .int x2)]) hx hb dX10_seat_111 hl (k := 7) rfl rfl (by decide) rfl (fun ls hl => ?_)
              refine lv_goto (tgt := 21) hx hb dX10_seat_114 (by decide) ?_
              exact ih _ _ _ _ _ _ _ _ _ h hW hS (lv_sub hl [5, 6, 7, 2, 1, 0] rfl)
      · replace h := z_f h hc
        clear hc
        refine lv_aload_n hx hb dX10_seat_68 rfl (lv_at hl 1 rfl) ?_
        refine z_getr (o := 6) C0 hW fl_X10_28 (zk1 (hs 0 (by decide))) rfl (zk3 (hs 0 (by decide)) 2) dX10_seat_69 ?_
        refine lv_iload hx hb dX10_seat_72 (lv_at hl 6 rfl) ?_
        replace h := z_bd h
        obtain ⟨t9, hq, h⟩ := h
        refine z_cvi (As := [.int x5]) C0 hml hl.1 hW hS (c_X9_isOpen l D A b (zg G q) 6 (q 0) (zT0 hT) x5 u hq) mv_X10_227 (zT0 hT).1 ⟨Nat.le_of_ble_eq_true rfl, Nat.le_of_ble_eq_true rfl⟩ rfl rfl (Nat.le_of_ble_eq_true rfl) dX10_seat_74 (fun H locs hW hS => ?_)
        clear hq
        refine z_ifeqZ C0 (tgt := 84) dX10_seat_77 (by decide) (fun hc => ?_) (fun hc => ?_)
        · replace h := z_ff h hc
          clear hc
          refine lv_iconst (v := (0 : Int32)) hx hb dX10_seat_84 (by decide) ?_
          refine lv_istore (lv' := [(7, .int (0 : Int32)), (6, .int z7), (0, .ref (b + 0)), (1, .int x1), (2, .int x2), (3, .int x3), (4, .int x4), (5, .int x5)]) hx hb dX10_seat_85 hl (by decide) rfl (fun ls hl => ?_)
          refine lv_iload hx hb dX10_seat_87 (lv_at hl 0 rfl) ?_
          refine lv_if_eq (tgt := 111) hx hb dX10_seat_89 (by decide) (fun hc => ?_) (fun hc => ?_)
          · clear hc
            refine lv_iinc (v := x5 + (1 : Int32)) (lv' := [(5, .int (x5 + (1 : Int32))), (7, .int (0 : Int32)), (6, .int z7), (0, .ref (b + 0)), (1, .int x1), (2, .int x2), (3, .int x3), (4, .int x4)]) hx hb dX10_seat_111 hl (k := 7) rfl rfl (by decide) rfl (fun ls hl => ?_)
            refine lv_goto (tgt := 21) hx hb dX10_seat_114 (by decide) ?_
            exact ih _ _ _ _ _ _ _ _ _ h hW hS (lv_sub hl [3, 4, 5, 6, 7, 0] rfl)
          · exact absurd hc (by decide)
        · replace h := z_t h hc
          clear hc
          refine lv_iconst (v := (1 : Int32)) hx hb dX10_seat_80 (by decide) ?_
          refine lv_goto (tgt := 85) hx hb dX10_seat_81 (by decide) ?_
          refine lv_istore (lv' := [(7, .int (1 : Int32)), (6, .int z7), (0, .ref (b + 0)), (1, .int x1), (2, .int x2), (3, .int x3), (4, .int x4), (5, .int x5)]) hx hb dX10_seat_85 hl (by decide) rfl (fun ls hl => ?_)
          refine lv_iload hx hb dX10_seat_87 (lv_at hl 0 rfl) ?_
          refine lv_if_eq (tgt := 111) hx hb dX10_seat_89 (by decide) (fun hc => ?_) (fun hc => ?_)
          · exact absurd hc (by decide)
          · clear hc
            refine lv_iload_n hx hb dX10_seat_92 rfl (lv_at hl 5 rfl) ?_
            refine lv_iconst (v := (-1 : Int32)) hx hb dX10_seat_93 (by decide) ?_
            refine lv_icmp_eq (tgt := 104) hx hb dX10_seat_94 (by decide) (fun hc => ?_) (fun hc => ?_)
            · replace h := z_t h hc
              clear hc
              refine lv_iload hx hb dX10_seat_104 (lv_at hl 7 rfl) ?_
              refine lv_istore_n (lv' := [(3, .int x5), (7, .int (1 : Int32)), (6, .int z7), (0, .ref (b + 0)), (1, .int x1), (2, .int x2), (4, .int x4), (5, .int x5)]) hx hb dX10_seat_106 rfl hl (by decide) rfl (fun ls hl => ?_)
              refine lv_iload hx hb dX10_seat_107 (lv_at hl 2 rfl) ?_
              refine lv_istore (lv' := [(4, .int z7), (3, .int x5), (7, .int (1 : Int32)), (6, .int z7), (0, .ref (b + 0)), (1, .int x1), (2, .int x2), (5, .int x5)]) hx hb dX10_seat_109 hl (by decide) rfl (fun ls hl => ?_)
              refine lv_iinc (v := x5 + (1 : Int32)) (lv' := [(5, .int (x5 + (1 : Int32))), (4, .int z7), (3, .int x5), (7, .int (1 : Int32)), (6, .int z7), (0, .ref (b + 0)), (1, .int x1), (2, .int x2)]) hx hb dX10_seat_111 hl (k := 7) rfl rfl (by decide) rfl (fun ls hl => ?_)
              refine lv_goto (tgt := 21) hx hb dX10_seat_114 (by decide) ?_
              exact ih _ _ _ _ _ _ _ _ _ h hW hS (lv_sub hl [5, 6, 7, 2, 1, 0] rfl)
            · replace h := z_f h hc
              clear hc
              refine lv_iload hx hb dX10_seat_97 (lv_at hl 1 rfl) ?_
              refine lv_iload hx hb dX10_seat_99 (lv_at hl 6 rfl) ?_
              refine lv_icmp_ge (tgt := 111) hx hb dX10_seat_101 (by decide) (fun hc => ?_) (fun hc => ?_)
              · replace h := z_t h hc
                clear hc
                refine lv_iinc (v := x5 + (1 : Int32)) (lv' := [(5, .int (x5 + (1 : Int32))), (7, .int (1 : Int32)), (6, .int z7), (0, .ref (b + 0)), (1, .int x1), (2, .int x2), (3, .int x3), (4, .int x4)]) hx hb dX10_seat_111 hl (k := 7) rfl rfl (by decide) rfl (fun ls hl => ?_)
                refine lv_goto (tgt := 21) hx hb dX10_seat_114 (by decide) ?_
                exact ih _ _ _ _ _ _ _ _ _ h hW hS (lv_sub hl [3, 4, 5, 6, 7, 0] rfl)
              · replace h := z_f h hc
                clear hc
                refine lv_iload hx hb dX10_seat_104 (lv_at hl 7 rfl) ?_
                refine lv_istore_n (lv' := [(3, .int x5), (7, .int (1 : Int32)), (6, .int z7), (0, .ref (b + 0)), (1, .int x1), (2, .int x2), (4, .int x4), (5, .int x5)]) hx hb dX10_seat_106 rfl hl (by decide) rfl (fun ls hl => ?_)
                refine lv_iload hx hb dX10_seat_107 (lv_at hl 2 rfl) ?_
                refine lv_istore (lv' := [(4, .int z7), (3, .int x5), (7, .int (1 : Int32)), (6, .int z7), (0, .ref (b + 0)), (1, .int x1), (2, .int x2), (5, .int x5)]) hx hb dX10_seat_109 hl (by decide) rfl (fun ls hl => ?_)
                refine lv_iinc (v := x5 + (1 : Int32)) (lv' := [(5, .int (x5 + (1 : Int32))), (4, .int z7), (3, .int x5), (7, .int (1 : Int32)), (6, .int z7), (0, .ref (b + 0)), (1, .int x1), (2, .int x2)]) hx hb dX10_seat_111 hl (k := 7) rfl rfl (by decide) rfl (fun ls hl => ?_)
                refine lv_goto (tgt := 21) hx hb dX10_seat_114 (by decide) ?_
                exact ih _ _ _ _ _ _ _ _ _ h hW hS (lv_sub hl [5, 6, 7, 2, 1, 0] rfl)
theorem f_X10_seat_e (q : zq) (a1 : Int32) (u : zU) : f_X10_seat q a1 u = z_bx (f_X10_needRider (q) a1 u) (fun w1 q3 u2 => (f_X10_leanWithout (q3) ((1 : Int32) <<< (a1 &&& 31)) u2).bind (fun r4 => f_X10_seat_21 q3 5000 a1 r4 (-1 : Int32) (0 : Int32) (0 : Int32) u2)) := rfl
set_option maxRecDepth 100000 in
set_option maxHeartbeats 4000000 in
theorem c_X10_seat (l : Launch) (D : zD) (A : Nat → Prop) (b : Nat) (G : zG) (q : zq) (hT : zTop G q) (a1 : Int32) (u : zU) {v : Int32} {q' : zq} {u' : zU} (h : f_X10_seat q a1 u = some (.inr v, q', u')) : z_MT l D A b G yX10_seat cX10_seat 8 (some .int) 7 111 [.ref (b + 0), .int a1] q u (some (.int v)) q' u' := by
  refine z_enterT (by decide) (Nat.le_of_ble_eq_true rfl) ?_
  intro p e s m below meth c ls C0 hr hml hlk hW hS hl
  have hl : lv_has ls 8 [(0, .ref (b + 0)), (1, .int a1)] := hl
  have hx := C0.1
  have hb := C0.2.1
  have hs := hT.1
  rw [f_X10_seat_e] at h
  refine lv_aload_n hx hb dX10_seat_0 rfl (lv_at hl 0 rfl) ?_
  refine lv_iload_n hx hb dX10_seat_1 rfl (lv_at hl 1 rfl) ?_
  replace h := z_bxd h
  rcases h with ⟨E1, hq, hE⟩ | ⟨w1, q3, u2, hq, h⟩
  · cases hE
  · refine z_cvTv (As := [.int a1]) C0 hml hl.1 hW hS (c_X10_needRider l D A b G (q) hT a1 u hq) mv_X10_136 (zk1 (hs 0 (by decide))) ⟨Nat.le_of_ble_eq_true rfl, Nat.le_of_ble_eq_true rfl⟩ rfl rfl (Nat.le_of_ble_eq_true rfl) dX10_seat_2 (fun H locs hW hS hT => ?_)
    clear hq
    have hs := hT.1
    refine lv_aload_n hx hb dX10_seat_5 rfl (lv_at hl 0 rfl) ?_
    refine lv_iconst (v := (1 : Int32)) hx hb dX10_seat_6 (by decide) ?_
    refine lv_iload_n hx hb dX10_seat_7 rfl (lv_at hl 1 rfl) ?_
    refine lv_ishl hx hb dX10_seat_8 ?_
    replace h := z_bd h
    obtain ⟨r4, hq, h⟩ := h
    refine z_cvi (As := [.int ((1 : Int32) <<< (a1 &&& 31))]) C0 hml hl.1 hW hS (c_X10_leanWithout l D A b G (q3) hT ((1 : Int32) <<< (a1 &&& 31)) u2 hq) mv_X10_350 (zk1 (hs 0 (by decide))) ⟨Nat.le_of_ble_eq_true rfl, Nat.le_of_ble_eq_true rfl⟩ rfl rfl (Nat.le_of_ble_eq_true rfl) dX10_seat_9 (fun H locs hW hS => ?_)
    clear hq
    refine lv_istore_n (lv' := [(2, .int r4), (0, .ref (b + 0)), (1, .int a1)]) hx hb dX10_seat_12 rfl hl (by decide) rfl (fun ls hl => ?_)
    refine lv_iconst (v := (-1 : Int32)) hx hb dX10_seat_13 (by decide) ?_
    refine lv_istore_n (lv' := [(3, .int (-1 : Int32)), (2, .int r4), (0, .ref (b + 0)), (1, .int a1)]) hx hb dX10_seat_14 rfl hl (by decide) rfl (fun ls hl => ?_)
    refine lv_iconst (v := (0 : Int32)) hx hb dX10_seat_15 (by decide) ?_
    refine lv_istore (lv' := [(4, .int (0 : Int32)), (3, .int (-1 : Int32)), (2, .int r4), (0, .ref (b + 0)), (1, .int a1)]) hx hb dX10_seat_16 hl (by decide) rfl (fun ls hl => ?_)
    refine lv_iconst (v := (0 : Int32)) hx hb dX10_seat_18 (by decide) ?_
    refine lv_istore (lv' := [(5, .int (0 : Int32)), (4, .int (0 : Int32)), (3, .int (-1 : Int32)), (2, .int r4), (0, .ref (b + 0)), (1, .int a1)]) hx hb dX10_seat_19 hl (by decide) rfl (fun ls hl => ?_)
    exact l_X10_seat_21 C0 hr hml hlk hT 5000 _ _ _ _ _ _ _ _ _ h hW hS (lv_sub hl [4, 5, 3, 2, 1, 0] rfl)
set_option maxRecDepth 100000 in
set_option maxHeartbeats 4000000 in
theorem lx_X10_seat_21 {l : Launch} {D : zD} {A : Nat → Prop} {b : Nat} {p : Program} {e : Env} {s : State} {m : MethodId} {args : Array Value} {below : List Frame} {meth : Method} {c : Code} {G : zG} {q : zq} {E : String} {q' : zq} {u' : zU} (C0 : z_C p c cX10_seat s m args yX10_seat.cls D A) (hex : ∀ x ∈ c.exceptionTable.toList, False) (hml : c.maxLocals = 8) (hlk : meth.locks = false) (hT : zTop G q) (hst : l.stackTraces = false) : ∀ (n : Nat) (x1 : Int32) (x2 : Int32) (x3 : Int32) (x4 : Int32) (x5 : Int32) (u : zU) (H : Heap) (locs : List Loc) (ls : Array Slot), f_X10_seat_21 q n x1 x2 x3 x4 x5 u = some (.inl E, q', u') → z_W D A b (zg G q) u H → va_S A s.heap H locs → lv_has ls 8 [(0, .ref (b + 0)), (1, .int x1), (2, .int x2), (3, .int x3), (4, .int x4), (5, .int x5)] → W p l e { frames := 7, cells := 1, slots := 6, locals := 111 } s m args below meth c H locs 0 0 (z_EndX D A b G below args s E q' u') (F0 m 21 ls []) := by
  have hx := C0.1
  have hb := C0.2.1
  have hs := hT.1
  intro n
  induction n with
  | zero => intro x1 x2 x3 x4 x5 u H locs ls h hW hS hl; cases h
  | succ n ih =>
    intro x1 x2 x3 x4 x5 u H locs ls h hW hS hl
    rw [f_X10_seat_21_s] at h
    refine lv_iload hx hb dX10_seat_21 (lv_at hl 5 rfl) ?_
    refine lv_bipush (v := (8 : Int32)) hx hb dX10_seat_23 (by decide) ?_
    refine lv_icmp_ge (tgt := 117) hx hb dX10_seat_25 (by decide) (fun hc => ?_) (fun hc => ?_)
    · replace h := z_t h hc
      clear hc
      refine lv_iload_n hx hb dX10_seat_117 rfl (lv_at hl 3 rfl) ?_
      cases h
    · replace h := z_f h hc
      clear hc
      refine lv_iload_n hx hb dX10_seat_28 rfl (lv_at hl 2 rfl) ?_
      refine lv_aload_n hx hb dX10_seat_29 rfl (lv_at hl 0 rfl) ?_
      refine z_getr (o := 6) C0 hW fl_X10_28 (zk1 (hs 0 (by decide))) rfl (zk3 (hs 0 (by decide)) 2) dX10_seat_30 ?_
      refine lv_iload hx hb dX10_seat_33 (lv_at hl 5 rfl) ?_
      obtain ⟨r5, hq⟩ : ∃ y, f_X9_lever 6 (q 0) x5 u = y := ⟨_, rfl⟩
      replace h := z_lz h hq
      refine z_cvi (As := [.int x5]) C0 hml hl.1 hW hS (c_X9_lever l D A b (zg G q) 6 (q 0) (zT0 hT) x5 u hq) mv_X10_353 (zT0 hT).1 ⟨Nat.le_of_ble_eq_true rfl, Nat.le_of_ble_eq_true rfl⟩ rfl rfl (Nat.le_of_ble_eq_true rfl) dX10_seat_35 (fun H locs hW hS => ?_)
      clear hq
      refine lv_aload_n hx hb dX10_seat_38 rfl (lv_at hl 0 rfl) ?_
      refine z_getr (o := 6) C0 hW fl_X10_28 (zk1 (hs 0 (by decide))) rfl (zk3 (hs 0 (by decide)) 2) dX10_seat_39 ?_
      refine z_getr (o := 8) C0 hW fl_X10_143 (zT0 hT).1 rfl ((zT0 hT).2.1 1 (by decide)).1 dX10_seat_42 ?_
      refine lv_iload_n hx hb dX10_seat_45 rfl (lv_at hl 1 rfl) ?_
      replace h := z_if h
      obtain ⟨hin, h⟩ := h
      refine z_iald (n := 8) C0 hW ((zT0 hT).2.1 1 (by decide)).2.1 ((zT0 hT).2.1 1 (by decide)).2.2 hin rfl dX10_seat_46 ?_
      clear hin
      refine lv_topi (fun z6 e1 => ?_)
      replace h := z_ly h e1
      clear e1
      refine lv_imul hx hb dX10_seat_47 ?_
      refine lv_iadd hx hb dX10_seat_48 ?_
      refine va_mabs hx hb (hml.trans hl.1.symm) C0.2.2.2.1 (C0.2.2.1 _ w_mm_X10_356) (C0.2.2.1 _ w_mst_abs) (C0.2.2.1 _ w_min_Math) (C0.2.2.1 _ w_mco_abs) (Nat.le_of_ble_eq_true rfl) (Nat.le_of_ble_eq_true rfl) (Nat.zero_le _) (Nat.zero_le _) dX10_seat_49 ?_
      refine lv_topi (fun z7 e1 => ?_)
      replace h := z_ly h e1
      clear e1
      refine lv_istore (lv' := [(6, .int z7), (0, .ref (b + 0)), (1, .int x1), (2, .int x2), (3, .int x3), (4, .int x4), (5, .int x5)]) hx hb dX10_seat_52 hl (by decide) rfl (fun ls hl => ?_)
      refine lv_aload_n hx hb dX10_seat_54 rfl (lv_at hl 1 rfl) ?_
      refine z_getr (o := 6) C0 hW fl_X10_28 (zk1 (hs 0 (by decide))) rfl (zk3 (hs 0 (by decide)) 2) dX10_seat_55 ?_
      refine z_getr (o := 7) C0 hW fl_X10_139 (zT0 hT).1 rfl ((zT0 hT).2.1 0 (by decide)).1 dX10_seat_58 ?_
      refine lv_iload_n hx hb dX10_seat_61 rfl (lv_at hl 2 rfl) ?_
      replace h := z_if h
      obtain ⟨hin, h⟩ := h
      refine z_iald (n := 8) C0 hW ((zT0 hT).2.1 0 (by decide)).2.1 ((zT0 hT).2.1 0 (by decide)).2.2 hin rfl dX10_seat_62 ?_
      clear hin
      refine lv_topi (fun z8 e1 => ?_)
      replace h := z_ly h e1
      clear e1
      refine lv_iload hx hb dX10_seat_63 (lv_at hl 6 rfl) ?_
      refine lv_icmp_eq (tgt := 80) hx hb dX10_seat_65 (by decide) (fun hc => ?_) (fun hc => ?_)
      · replace h := z_t h hc
        clear hc
        refine lv_iconst (v := (1 : Int32)) hx hb dX10_seat_80 (by decide) ?_
        refine lv_goto (tgt := 85) hx hb dX10_seat_81 (by decide) ?_
        refine lv_istore (lv' := [(7, .int (1 : Int32)), (6, .int z7), (0, .ref (b + 0)), (1, .int x1), (2, .int x2), (3, .int x3), (4, .int x4), (5, .int x5)]) hx hb dX10_seat_85 hl (by decide) rfl (fun ls hl => ?_)
        refine lv_iload hx hb dX10_seat_87 (lv_at hl 0 rfl) ?_
        refine lv_if_eq (tgt := 111) hx hb dX10_seat_89 (by decide) (fun hc => ?_) (fun hc => ?_)
        · exact absurd hc (by decide)
        · clear hc
          refine lv_iload_n hx hb dX10_seat_92 rfl (lv_at hl 5 rfl) ?_
          refine lv_iconst (v := (-1 : Int32)) hx hb dX10_seat_93 (by decide) ?_
          refine lv_icmp_eq (tgt := 104) hx hb dX10_seat_94 (by decide) (fun hc => ?_) (fun hc => ?_)
          · replace h := z_t h hc
            clear hc
            refine lv_iload hx hb dX10_seat_104 (lv_at hl 7 rfl) ?_
            refine lv_istore_n (lv' := [(3, .int x5), (7, .int (1 : Int32)), (6, .int z7), (0, .ref (b + 0)), (1, .int x1), (2, .int x2), (4, .int x4), (5, .int x5)]) hx hb dX10_seat_106 rfl hl (by decide) rfl (fun ls hl => ?_)
            refine lv_iload hx hb dX10_seat_107 (lv_at hl 2 rfl) ?_
            refine lv_istore (lv' := [(4, .int z7), (3, .int x5), (7, .int (1 : Int32)), (6, .int z7), (0, .ref (b + 0)), (1, .int x1), (2, .int x2), (5, .int x5)]) hx hb dX10_seat_109 hl (by decide) rfl (fun ls hl => ?_)
            refine lv_iinc (v := x5 + (1 : Int32)) (lv' := [(5, .int (x5 + (1 : Int32))), (4, .int z7), (3, .int x5), (7, .int (1 : Int32)), (6, .int z7), (0, .ref (b + 0)), (1, .int x1), (2, .int x2)]) hx hb dX10_seat_111 hl (k := 7) rfl rfl (by decide) rfl (fun ls hl => ?_)
            refine lv_goto (tgt := 21) hx hb dX10_seat_114 (by decide) ?_
            exact ih _ _ _ _ _ _ _ _ _ h hW hS (lv_sub hl [5, 6, 7, 2, 1, 0] rfl)
          · replace h := z_f h hc
            clear hc
            refine lv_iload hx hb dX10_seat_97 (lv_at hl 1 rfl) ?_
            refine lv_iload hx hb dX10_seat_99 (lv_at hl 6 rfl) ?_
            refine lv_icmp_ge (tgt := 111) hx hb dX10_seat_101 (by decide) (fun hc => ?_) (fun hc => ?_)
            · replace h := z_t h hc
              clear hc
              refine lv_iinc (v := x5 + (1 : Int32)) (lv' := [(5, .int (x5 + (1 : Int32))), (7, .int (1 : Int32)), (6, .int z7), (0, .ref (b + 0)), (1, .int x1), (2, .int x2), (3, .int x3), (4, .int x4)]) hx hb dX10_seat_111 hl (k := 7) rfl rfl (by decide) rfl (fun ls hl => ?_)
              refine lv_goto (tgt := 21) hx hb dX10_seat_114 (by decide) ?_
              exact ih _ _ _ _ _ _ _ _ _ h hW hS (lv_sub hl [3, 4, 5, 6, 7, 0] rfl)
            · replace h := z_f h hc
              clear hc
              refine lv_iload hx hb dX10_seat_104 (lv_at hl 7 rfl) ?_
              refine lv_istore_n (lv' := [(3, .int x5), (7, .int (1 : Int32)), (6, .int z7), (0, .ref (b + 0)), (1, .int x1), (2, .int x2), (4, .int x4), (5, .int x5)]) hx hb dX10_seat_106 rfl hl (by decide) rfl (fun ls hl => ?_)
              refine lv_iload hx hb dX10_seat_107 (lv_at hl 2 rfl) ?_
              refine lv_istore (lv' := [(4, .int z7), (3, .int x5), (7, .int (1 : Int32)), (6, .int z7), (0, .ref (b + 0)), (1, .int x1), (2, .int x2), (5, .int x5)]) hx hb dX10_seat_109 hl (by decide) rfl (fun ls hl => ?_)
              refine lv_iinc (v := x5 + (1 : Int32)) (lv' := [(5, .int (x5 + (1 : Int32))), (4, .int z7), (3, .int x5), (7, .int (1 : Int32)), (6, .int z7), (0, .ref (b + 0)), (1, .int x1), (2, .int x2)]) hx hb dX10_seat_111 hl (k := 7) rfl rfl (by decide) rfl (fun ls hl => ?_)
              refine lv_goto (tgt := 21) hx hb dX10_seat_114 (by decide) ?_
              exact ih _ _ _ _ _ _ _ _ _ h hW hS (lv_sub hl [5, 6, 7, 2, 1, 0] rfl)
      · replace h := z_f h hc
        clear hc
        refine lv_aload_n hx hb dX10_seat_68 rfl (lv_at hl 1 rfl) ?_
        refine z_getr (o := 6) C0 hW fl_X10_28 (zk1 (hs 0 (by decide))) rfl (zk3 (hs 0 (by decide)) 2) dX10_seat_69 ?_
        refine lv_iload hx hb dX10_seat_72 (lv_at hl 6 rfl) ?_
        replace h := z_bd h
        obtain ⟨t9, hq, h⟩ := h
        refine z_cvi (As := [.int x5]) C0 hml hl.1 hW hS (c_X9_isOpen l D A b (zg G q) 6 (q 0) (zT0 hT) x5 u hq) mv_X10_227 (zT0 hT).1 ⟨Nat.le_of_ble_eq_true rfl, Nat.le_of_ble_eq_true rfl⟩ rfl rfl (Nat.le_of_ble_eq_true rfl) dX10_seat_74 (fun H locs hW hS => ?_)
        clear hq
        refine z_ifeqZ C0 (tgt := 84) dX10_seat_77 (by decide) (fun hc => ?_) (fun hc => ?_)
        · replace h := z_ff h hc
          clear hc
          refine lv_iconst (v := (0 : Int32)) hx hb dX10_seat_84 (by decide) ?_
          refine lv_istore (lv' := [(7, .int (0 : Int32)), (6, .int z7), (0, .ref (b + 0)), (1, .int x1), (2, .int x2), (3, .int x3), (4, .int x4), (5, .int x5)]) hx hb dX10_seat_85 hl (by decide) rfl (fun ls hl => ?_)
          refine lv_iload hx hb dX10_seat_87 (lv_at hl 0 rfl) ?_
          refine lv_if_eq (tgt := 111) hx hb dX10_seat_89 (by decide) (fun hc => ?_) (fun hc => ?_)
          · clear hc
            refine lv_iinc (v := x5 + (1 : Int32)) (lv' := [(5, .int (x5 + (1 : Int32))), (7, .int (0 : Int32)), (6, .int z7), (0, .ref (b + 0)), (1, .int x1), (2, .int x2), (3, .int x3), (4, .int x4)]) hx hb dX10_seat_111 hl (k := 7) rfl rfl (by decide) rfl (fun ls hl => ?_)
            refine lv_goto (tgt := 21) hx hb dX10_seat_114 (by decide) ?_
            exact ih _ _ _ _ _ _ _ _ _ h hW hS (lv_sub hl [3, 4, 5, 6, 7, 0] rfl)
          · exact absurd hc (by decide)
        · replace h := z_t h hc
          clear hc
          refine lv_iconst (v := (1 : Int32)) hx hb dX10_seat_80 (by decide) ?_
          refine lv_goto (tgt := 85) hx hb dX10_seat_81 (by decide) ?_
          refine lv_istore (lv' := [(7, .int (1 : Int32)), (6, .int z7), (0, .ref (b + 0)), (1, .int x1), (2, .int x2), (3, .int x3), (4, .int x4), (5, .int x5)]) hx hb dX10_seat_85 hl (by decide) rfl (fun ls hl => ?_)
          refine lv_iload hx hb dX10_seat_87 (lv_at hl 0 rfl) ?_
          refine lv_if_eq (tgt := 111) hx hb dX10_seat_89 (by decide) (fun hc => ?_) (fun hc => ?_)
          · exact absurd hc (by decide)
          · clear hc
            refine lv_iload_n hx hb dX10_seat_92 rfl (lv_at hl 5 rfl) ?_
            refine lv_iconst (v := (-1 : Int32)) hx hb dX10_seat_93 (by decide) ?_
            refine lv_icmp_eq (tgt := 104) hx hb dX10_seat_94 (by decide) (fun hc => ?_) (fun hc => ?_)
            · replace h := z_t h hc
              clear hc
              refine lv_iload hx hb dX10_seat_104 (lv_at hl 7 rfl) ?_
              refine lv_istore_n (lv' := [(3, .int x5), (7, .int (1 : Int32)), (6, .int z7), (0, .ref (b + 0)), (1, .int x1), (2, .int x2), (4, .int x4), (5, .int x5)]) hx hb dX10_seat_106 rfl hl (by decide) rfl (fun ls hl => ?_)
              refine lv_iload hx hb dX10_seat_107 (lv_at hl 2 rfl) ?_
              refine lv_istore (lv' := [(4, .int z7), (3, .int x5), (7, .int (1 : Int32)), (6, .int z7), (0, .ref (b + 0)), (1, .int x1), (2, .int x2), (5, .int x5)]) hx hb dX10_seat_109 hl (by decide) rfl (fun ls hl => ?_)
              refine lv_iinc (v := x5 + (1 : Int32)) (lv' := [(5, .int (x5 + (1 : Int32))), (4, .int z7), (3, .int x5), (7, .int (1 : Int32)), (6, .int z7), (0, .ref (b + 0)), (1, .int x1), (2, .int x2)]) hx hb dX10_seat_111 hl (k := 7) rfl rfl (by decide) rfl (fun ls hl => ?_)
              refine lv_goto (tgt := 21) hx hb dX10_seat_114 (by decide) ?_
              exact ih _ _ _ _ _ _ _ _ _ h hW hS (lv_sub hl [5, 6, 7, 2, 1, 0] rfl)
            · replace h := z_f h hc
              clear hc
              refine lv_iload hx hb dX10_seat_97 (lv_at hl 1 rfl) ?_
              refine lv_iload hx hb dX10_seat_99 (lv_at hl 6 rfl) ?_
              refine lv_icmp_ge (tgt := 111) hx hb dX10_seat_101 (by decide) (fun hc => ?_) (fun hc => ?_)
              · replace h := z_t h hc
                clear hc
                refine lv_iinc (v := x5 + (1 : Int32)) (lv' := [(5, .int (x5 + (1 : Int32))), (7, .int (1 : Int32)), (6, .int z7), (0, .ref (b + 0)), (1, .int x1), (2, .int x2), (3, .int x3), (4, .int x4)]) hx hb dX10_seat_111 hl (k := 7) rfl rfl (by decide) rfl (fun ls hl => ?_)
                refine lv_goto (tgt := 21) hx hb dX10_seat_114 (by decide) ?_
                exact ih _ _ _ _ _ _ _ _ _ h hW hS (lv_sub hl [3, 4, 5, 6, 7, 0] rfl)
              · replace h := z_f h hc
                clear hc
                refine lv_iload hx hb dX10_seat_104 (lv_at hl 7 rfl) ?_
                refine lv_istore_n (lv' := [(3, .int x5), (7, .int (1 : Int32)), (6, .int z7), (0, .ref (b + 0)), (1, .int x1), (2, .int x2), (4, .int x4), (5, .int x5)]) hx hb dX10_seat_106 rfl hl (by decide) rfl (fun ls hl => ?_)
                refine lv_iload hx hb dX10_seat_107 (lv_at hl 2 rfl) ?_
                refine lv_istore (lv' := [(4, .int z7), (3, .int x5), (7, .int (1 : Int32)), (6, .int z7), (0, .ref (b + 0)), (1, .int x1), (2, .int x2), (5, .int x5)]) hx hb dX10_seat_109 hl (by decide) rfl (fun ls hl => ?_)
                refine lv_iinc (v := x5 + (1 : Int32)) (lv' := [(5, .int (x5 + (1 : Int32))), (4, .int z7), (3, .int x5), (7, .int (1 : Int32)), (6, .int z7), (0, .ref (b + 0)), (1, .int x1), (2, .int x2)]) hx hb dX10_seat_111 hl (k := 7) rfl rfl (by decide) rfl (fun ls hl => ?_)
                refine lv_goto (tgt := 21) hx hb dX10_seat_114 (by decide) ?_
                exact ih _ _ _ _ _ _ _ _ _ h hW hS (lv_sub hl [5, 6, 7, 2, 1, 0] rfl)
set_option maxRecDepth 100000 in
set_option maxHeartbeats 4000000 in
theorem t_X10_seat (l : Launch) (D : zD) (A : Nat → Prop) (b : Nat) (G : zG) (q : zq) (hT : zTop G q) (hst : l.stackTraces = false) (a1 : Int32) (u : zU) {E : String} {q' : zq} {u' : zU} (h : f_X10_seat q a1 u = some (.inl E, q', u')) : z_TX l D A b G yX10_seat cX10_seat 8 (some .int) 7 111 [.ref (b + 0), .int a1] q u E q' u' := by
  refine z_enterX (by decide) (Nat.le_of_ble_eq_true rfl) ?_
  intro p e s m below meth c ls C0 hex hml hlk hW hS hl
  have hl : lv_has ls 8 [(0, .ref (b + 0)), (1, .int a1)] := hl
  have hx := C0.1
  have hb := C0.2.1
  have hs := hT.1
  rw [f_X10_seat_e] at h
  refine lv_aload_n hx hb dX10_seat_0 rfl (lv_at hl 0 rfl) ?_
  refine lv_iload_n hx hb dX10_seat_1 rfl (lv_at hl 1 rfl) ?_
  replace h := z_bxd h
  rcases h with ⟨E1, hq, hE⟩ | ⟨w1, q3, u2, hq, h⟩
  · cases hE
    exact z_cvX (As := [.int a1]) C0 hml hl.1 hW hS hex hlk (t_X10_needRider l D A b G (q) hT hst a1 u hq) mv_X10_136 (zk1 (hs 0 (by decide))) ⟨Nat.le_of_ble_eq_true rfl, Nat.le_of_ble_eq_true rfl⟩ ⟨Nat.le_of_ble_eq_true rfl, Nat.le_of_ble_eq_true rfl⟩ rfl rfl (Nat.le_of_ble_eq_true rfl) dX10_seat_2
  · refine z_cvTv (As := [.int a1]) C0 hml hl.1 hW hS (c_X10_needRider l D A b G (q) hT a1 u hq) mv_X10_136 (zk1 (hs 0 (by decide))) ⟨Nat.le_of_ble_eq_true rfl, Nat.le_of_ble_eq_true rfl⟩ rfl rfl (Nat.le_of_ble_eq_true rfl) dX10_seat_2 (fun H locs hW hS hT => ?_)
    clear hq
    have hs := hT.1
    refine lv_aload_n hx hb dX10_seat_5 rfl (lv_at hl 0 rfl) ?_
    refine lv_iconst (v := (1 : Int32)) hx hb dX10_seat_6 (by decide) ?_
    refine lv_iload_n hx hb dX10_seat_7 rfl (lv_at hl 1 rfl) ?_
    refine lv_ishl hx hb dX10_seat_8 ?_
    replace h := z_bd h
    obtain ⟨r4, hq, h⟩ := h
    refine z_cvi (As := [.int ((1 : Int32) <<< (a1 &&& 31))]) C0 hml hl.1 hW hS (c_X10_leanWithout l D A b G (q3) hT ((1 : Int32) <<< (a1 &&& 31)) u2 hq) mv_X10_350 (zk1 (hs 0 (by decide))) ⟨Nat.le_of_ble_eq_true rfl, Nat.le_of_ble_eq_true rfl⟩ rfl rfl (Nat.le_of_ble_eq_true rfl) dX10_seat_9 (fun H locs hW hS => ?_)
    clear hq
    refine lv_istore_n (lv' := [(2, .int r4), (0, .ref (b + 0)), (1, .int a1)]) hx hb dX10_seat_12 rfl hl (by decide) rfl (fun ls hl => ?_)
    refine lv_iconst (v := (-1 : Int32)) hx hb dX10_seat_13 (by decide) ?_
    refine lv_istore_n (lv' := [(3, .int (-1 : Int32)), (2, .int r4), (0, .ref (b + 0)), (1, .int a1)]) hx hb dX10_seat_14 rfl hl (by decide) rfl (fun ls hl => ?_)
    refine lv_iconst (v := (0 : Int32)) hx hb dX10_seat_15 (by decide) ?_
    refine lv_istore (lv' := [(4, .int (0 : Int32)), (3, .int (-1 : Int32)), (2, .int r4), (0, .ref (b + 0)), (1, .int a1)]) hx hb dX10_seat_16 hl (by decide) rfl (fun ls hl => ?_)
    refine lv_iconst (v := (0 : Int32)) hx hb dX10_seat_18 (by decide) ?_
    refine lv_istore (lv' := [(5, .int (0 : Int32)), (4, .int (0 : Int32)), (3, .int (-1 : Int32)), (2, .int r4), (0, .ref (b + 0)), (1, .int a1)]) hx hb dX10_seat_19 hl (by decide) rfl (fun ls hl => ?_)
    exact lx_X10_seat_21 C0 hex hml hlk hT hst 5000 _ _ _ _ _ _ _ _ _ h hW hS (lv_sub hl [4, 5, 3, 2, 1, 0] rfl)
def f_X10_shifts_9 (q : zq) : Nat → Int32 → Int32 → Int32 → zU → Option (Int32)
  | 0, _, _, _, _ => none
  | n + 1, x1, x2, x3, u =>
    if x1 ≤ x3 then (some x2) else (z_let (f_J6_bitCount_0f7a4 x3 u) (fun r2 => z_let (f_J6_bitCount_0f7a4 x2 u) (fun r3 => if r3 ≤ r2 then (if (x3 &&& (x1 ^^^ (-1 : Int32))) = 0 then (f_X10_shifts_9 q n x1 x2 (x3 + (1 : Int32)) u) else (f_X10_shifts_9 q n x1 x2 (x3 + (1 : Int32)) u)) else (if (x3 &&& (x1 ^^^ (-1 : Int32))) = 0 then ((f_X10_leanWithout (q) x3 u).bind (fun r4 => if r4 = 0 then (f_X10_shifts_9 q n x1 x3 (x3 + (1 : Int32)) u) else (f_X10_shifts_9 q n x1 x2 (x3 + (1 : Int32)) u))) else (f_X10_shifts_9 q n x1 x2 (x3 + (1 : Int32)) u)))))
theorem f_X10_shifts_9_s (q : zq) (n : Nat) (x1 : Int32) (x2 : Int32) (x3 : Int32) (u : zU) : f_X10_shifts_9 q (n + 1) x1 x2 x3 u = if x1 ≤ x3 then (some x2) else (z_let (f_J6_bitCount_0f7a4 x3 u) (fun r2 => z_let (f_J6_bitCount_0f7a4 x2 u) (fun r3 => if r3 ≤ r2 then (if (x3 &&& (x1 ^^^ (-1 : Int32))) = 0 then (f_X10_shifts_9 q n x1 x2 (x3 + (1 : Int32)) u) else (f_X10_shifts_9 q n x1 x2 (x3 + (1 : Int32)) u)) else (if (x3 &&& (x1 ^^^ (-1 : Int32))) = 0 then ((f_X10_leanWithout (q) x3 u).bind (fun r4 => if r4 = 0 then (f_X10_shifts_9 q n x1 x3 (x3 + (1 : Int32)) u) else (f_X10_shifts_9 q n x1 x2 (x3 + (1 : Int32)) u))) else (f_X10_shifts_9 q n x1 x2 (x3 + (1 : Int32)) u))))) := rfl
def f_X10_shifts (q : zq)  (u : zU) : Option (Int32) :=
  (f_X10_seatedRiders (q) u).bind (fun r1 => f_X10_shifts_9 q 5000 r1 r1 (0 : Int32) u)
set_option maxRecDepth 100000 in
set_option maxHeartbeats 4000000 in
theorem l_X10_shifts_9 {l : Launch} {D : zD} {A : Nat → Prop} {b : Nat} {p : Program} {e : Env} {s : State} {m : MethodId} {args : Array Value} {below : List Frame} {meth : Method} {c : Code} {G : zG} {q : zq} {v : Int32} {u : zU} (C0 : z_C p c cX10_shifts s m args yX10_shifts.cls D A) (hr : meth.sig.returnType = (some .int)) (hml : c.maxLocals = 5) (hlk : meth.locks = false) (hT : zTop G q) : ∀ (n : Nat) (x1 : Int32) (x2 : Int32) (x3 : Int32) (H : Heap) (locs : List Loc) (ls : Array Slot), f_X10_shifts_9 q n x1 x2 x3 u = some v → z_W D A b (zg G q) u H → va_S A s.heap H locs → lv_has ls 5 [(0, .ref (b + 0)), (1, .int x1), (2, .int x2), (3, .int x3)] → W p l e { frames := 3, cells := 0, slots := 0, locals := 66 } s m args below meth c H locs 0 0 (z_End D A b (zg G q) below args s (some (.int v)) u) (F0 m 9 ls []) := by
  have hx := C0.1
  have hb := C0.2.1
  have hs := hT.1
  intro n
  induction n with
  | zero => intro x1 x2 x3 H locs ls h hW hS hl; cases h
  | succ n ih =>
    intro x1 x2 x3 H locs ls h hW hS hl
    rw [f_X10_shifts_9_s] at h
    refine lv_iload_n hx hb dX10_shifts_9 rfl (lv_at hl 3 rfl) ?_
    refine lv_iload_n hx hb dX10_shifts_10 rfl (lv_at hl 1 rfl) ?_
    refine lv_icmp_ge (tgt := 61) hx hb dX10_shifts_11 (by decide) (fun hc => ?_) (fun hc => ?_)
    · replace h := z_t h hc
      clear hc
      refine lv_iload_n hx hb dX10_shifts_61 rfl (lv_at hl 2 rfl) ?_
      cases h
      exact z_iret C0 hr hlk hW hS dX10_shifts_62
    · replace h := z_f h hc
      clear hc
      refine lv_iload_n hx hb dX10_shifts_14 rfl (lv_at hl 3 rfl) ?_
      obtain ⟨r2, hq⟩ : ∃ y, f_J6_bitCount_0f7a4 x3 u = y := ⟨_, rfl⟩
      replace h := z_lz h hq
      refine z_csi (As := [.int x3]) C0 hml hl.1 hW hS (c_J6_bitCount_0f7a4 l D A b (zg G q) x3 u hq) ms_X10_231 ⟨Nat.le_of_ble_eq_true rfl, Nat.le_of_ble_eq_true rfl⟩ rfl rfl (Nat.le_of_ble_eq_true rfl) dX10_shifts_15 (fun H locs hW hS => ?_)
      clear hq
      refine lv_iload_n hx hb dX10_shifts_18 rfl (lv_at hl 2 rfl) ?_
      obtain ⟨r3, hq⟩ : ∃ y, f_J6_bitCount_0f7a4 x2 u = y := ⟨_, rfl⟩
      replace h := z_lz h hq
      refine z_csi (As := [.int x2]) C0 hml hl.1 hW hS (c_J6_bitCount_0f7a4 l D A b (zg G q) x2 u hq) ms_X10_231 ⟨Nat.le_of_ble_eq_true rfl, Nat.le_of_ble_eq_true rfl⟩ rfl rfl (Nat.le_of_ble_eq_true rfl) dX10_shifts_19 (fun H locs hW hS => ?_)
      clear hq
      refine lv_icmp_ge (tgt := 29) hx hb dX10_shifts_22 (by decide) (fun hc => ?_) (fun hc => ?_)
      · replace h := z_t h hc
        clear hc
        refine lv_iconst (v := (0 : Int32)) hx hb dX10_shifts_29 (by decide) ?_
        refine lv_istore (lv' := [(4, .int (0 : Int32)), (0, .ref (b + 0)), (1, .int x1), (2, .int x2), (3, .int x3)]) hx hb dX10_shifts_30 hl (by decide) rfl (fun ls hl => ?_)
        refine lv_iload_n hx hb dX10_shifts_32 rfl (lv_at hl 4 rfl) ?_
        refine lv_iload_n hx hb dX10_shifts_33 rfl (lv_at hl 2 rfl) ?_
        refine lv_iconst (v := (-1 : Int32)) hx hb dX10_shifts_34 (by decide) ?_
        refine lv_ixor hx hb dX10_shifts_35 ?_
        refine lv_iand hx hb dX10_shifts_36 ?_
        refine lv_if_ne (tgt := 55) hx hb dX10_shifts_37 (by decide) (fun hc => ?_) (fun hc => ?_)
        · replace h := z_f h hc
          clear hc
          refine lv_iinc (v := x3 + (1 : Int32)) (lv' := [(3, .int (x3 + (1 : Int32))), (4, .int (0 : Int32)), (0, .ref (b + 0)), (1, .int x1), (2, .int x2)]) hx hb dX10_shifts_55 hl (k := 4) rfl rfl (by decide) rfl (fun ls hl => ?_)
          refine lv_goto (tgt := 9) hx hb dX10_shifts_58 (by decide) ?_
          exact ih _ _ _ _ _ _ h hW hS (lv_sub hl [2, 3, 4, 0] rfl)
        · replace h := z_t h hc
          clear hc
          refine lv_iload hx hb dX10_shifts_40 (lv_at hl 0 rfl) ?_
          refine lv_if_eq (tgt := 55) hx hb dX10_shifts_42 (by decide) (fun hc => ?_) (fun hc => ?_)
          · clear hc
            refine lv_iinc (v := x3 + (1 : Int32)) (lv' := [(3, .int (x3 + (1 : Int32))), (4, .int (0 : Int32)), (0, .ref (b + 0)), (1, .int x1), (2, .int x2)]) hx hb dX10_shifts_55 hl (k := 4) rfl rfl (by decide) rfl (fun ls hl => ?_)
            refine lv_goto (tgt := 9) hx hb dX10_shifts_58 (by decide) ?_
            exact ih _ _ _ _ _ _ h hW hS (lv_sub hl [2, 3, 4, 0] rfl)
          · exact absurd hc (by decide)
      · replace h := z_f h hc
        clear hc
        refine lv_iconst (v := (1 : Int32)) hx hb dX10_shifts_25 (by decide) ?_
        refine lv_goto (tgt := 30) hx hb dX10_shifts_26 (by decide) ?_
        refine lv_istore (lv' := [(4, .int (1 : Int32)), (0, .ref (b + 0)), (1, .int x1), (2, .int x2), (3, .int x3)]) hx hb dX10_shifts_30 hl (by decide) rfl (fun ls hl => ?_)
        refine lv_iload_n hx hb dX10_shifts_32 rfl (lv_at hl 4 rfl) ?_
        refine lv_iload_n hx hb dX10_shifts_33 rfl (lv_at hl 2 rfl) ?_
        refine lv_iconst (v := (-1 : Int32)) hx hb dX10_shifts_34 (by decide) ?_
        refine lv_ixor hx hb dX10_shifts_35 ?_
        refine lv_iand hx hb dX10_shifts_36 ?_
        refine lv_if_ne (tgt := 55) hx hb dX10_shifts_37 (by decide) (fun hc => ?_) (fun hc => ?_)
        · replace h := z_f h hc
          clear hc
          refine lv_iinc (v := x3 + (1 : Int32)) (lv' := [(3, .int (x3 + (1 : Int32))), (4, .int (1 : Int32)), (0, .ref (b + 0)), (1, .int x1), (2, .int x2)]) hx hb dX10_shifts_55 hl (k := 4) rfl rfl (by decide) rfl (fun ls hl => ?_)
          refine lv_goto (tgt := 9) hx hb dX10_shifts_58 (by decide) ?_
          exact ih _ _ _ _ _ _ h hW hS (lv_sub hl [2, 3, 4, 0] rfl)
        · replace h := z_t h hc
          clear hc
          refine lv_iload hx hb dX10_shifts_40 (lv_at hl 0 rfl) ?_
          refine lv_if_eq (tgt := 55) hx hb dX10_shifts_42 (by decide) (fun hc => ?_) (fun hc => ?_)
          · exact absurd hc (by decide)
          · clear hc
            refine lv_aload_n hx hb dX10_shifts_45 rfl (lv_at hl 1 rfl) ?_
            refine lv_iload_n hx hb dX10_shifts_46 rfl (lv_at hl 4 rfl) ?_
            replace h := z_bd h
            obtain ⟨r4, hq, h⟩ := h
            refine z_cvi (As := [.int x3]) C0 hml hl.1 hW hS (c_X10_leanWithout l D A b G (q) hT x3 u hq) mv_X10_350 (zk1 (hs 0 (by decide))) ⟨Nat.le_of_ble_eq_true rfl, Nat.le_of_ble_eq_true rfl⟩ rfl rfl (Nat.le_of_ble_eq_true rfl) dX10_shifts_47 (fun H locs hW hS => ?_)
            clear hq
            refine lv_if_ne (tgt := 55) hx hb dX10_shifts_50 (by decide) (fun hc => ?_) (fun hc => ?_)
            · replace h := z_f h hc
              clear hc
              refine lv_iinc (v := x3 + (1 : Int32)) (lv' := [(3, .int (x3 + (1 : Int32))), (4, .int (1 : Int32)), (0, .ref (b + 0)), (1, .int x1), (2, .int x2)]) hx hb dX10_shifts_55 hl (k := 4) rfl rfl (by decide) rfl (fun ls hl => ?_)
              refine lv_goto (tgt := 9) hx hb dX10_shifts_58 (by decide) ?_
              exact ih _ _ _ _ _ _ h hW hS (lv_sub hl [2, 3, 4, 0] rfl)
            · replace h := z_t h hc
              clear hc
              refine lv_iload_n hx hb dX10_shifts_53 rfl (lv_at hl 4 rfl) ?_
              refine lv_istore_n (lv' := [(2, .int x3), (4, .int (1 : Int32)), (0, .ref (b + 0)), (1, .int x1), (3, .int x3)]) hx hb dX10_shifts_54 rfl hl (by decide) rfl (fun ls hl => ?_)
              refine lv_iinc (v := x3 + (1 : Int32)) (lv' := [(3, .int (x3 + (1 : Int32))), (2, .int x3), (4, .int (1 : Int32)), (0, .ref (b + 0)), (1, .int x1)]) hx hb dX10_shifts_55 hl (k := 4) rfl rfl (by decide) rfl (fun ls hl => ?_)
              refine lv_goto (tgt := 9) hx hb dX10_shifts_58 (by decide) ?_
              exact ih _ _ _ _ _ _ h hW hS (lv_sub hl [3, 4, 1, 0] rfl)
theorem f_X10_shifts_e (q : zq)  (u : zU) : f_X10_shifts q u = (f_X10_seatedRiders (q) u).bind (fun r1 => f_X10_shifts_9 q 5000 r1 r1 (0 : Int32) u) := rfl
set_option maxRecDepth 100000 in
set_option maxHeartbeats 4000000 in
theorem c_X10_shifts (l : Launch) (D : zD) (A : Nat → Prop) (b : Nat) (G : zG) (q : zq) (hT : zTop G q)  (u : zU) {v : Int32} (h : f_X10_shifts q u = some v) : z_M l D A b (zg G q) yX10_shifts cX10_shifts 5 (some .int) 3 66 [.ref (b + 0)] u (some (.int v)) u := by
  refine z_enter (by decide) (Nat.le_of_ble_eq_true rfl) ?_
  intro p e s m below meth c ls C0 hr hml hlk hW hS hl
  have hl : lv_has ls 5 [(0, .ref (b + 0))] := hl
  have hx := C0.1
  have hb := C0.2.1
  have hs := hT.1
  rw [f_X10_shifts_e] at h
  refine lv_aload_n hx hb dX10_shifts_0 rfl (lv_at hl 0 rfl) ?_
  replace h := z_bd h
  obtain ⟨r1, hq, h⟩ := h
  refine z_cvi (As := []) C0 hml hl.1 hW hS (c_X10_seatedRiders l D A b G (q) hT u hq) mv_X10_359 (zk1 (hs 0 (by decide))) ⟨Nat.le_of_ble_eq_true rfl, Nat.le_of_ble_eq_true rfl⟩ rfl rfl (Nat.le_of_ble_eq_true rfl) dX10_shifts_1 (fun H locs hW hS => ?_)
  clear hq
  refine lv_istore_n (lv' := [(1, .int r1), (0, .ref (b + 0))]) hx hb dX10_shifts_4 rfl hl (by decide) rfl (fun ls hl => ?_)
  refine lv_iload_n hx hb dX10_shifts_5 rfl (lv_at hl 0 rfl) ?_
  refine lv_istore_n (lv' := [(2, .int r1), (1, .int r1), (0, .ref (b + 0))]) hx hb dX10_shifts_6 rfl hl (by decide) rfl (fun ls hl => ?_)
  refine lv_iconst (v := (0 : Int32)) hx hb dX10_shifts_7 (by decide) ?_
  refine lv_istore_n (lv' := [(3, .int (0 : Int32)), (2, .int r1), (1, .int r1), (0, .ref (b + 0))]) hx hb dX10_shifts_8 rfl hl (by decide) rfl (fun ls hl => ?_)
  exact l_X10_shifts_9 C0 hr hml hlk hT 5000 _ _ _ _ _ _ h hW hS (lv_sub hl [3, 2, 1, 0] rfl)
def f_X10_majority_4 (q : zq) : Nat → Int32 → Int32 → zU → Option (Int32)
  | 0, _, _, _ => none
  | n + 1, x1, x2, u =>
    if (16 : Int32) ≤ x2 then (some x1) else (if x1 = 0 then ((f_X10_isMajority (q) x2 u).bind (fun t1 => if t1 = true then (f_X10_majority_4 q n x2 (x2 + (1 : Int32)) u) else (f_X10_majority_4 q n x1 (x2 + (1 : Int32)) u))) else (z_let (f_J6_bitCount_0f7a4 x2 u) (fun r2 => z_let (f_J6_bitCount_0f7a4 x1 u) (fun r3 => if r3 ≤ r2 then (f_X10_majority_4 q n x1 (x2 + (1 : Int32)) u) else ((f_X10_isMajority (q) x2 u).bind (fun t4 => if t4 = true then (f_X10_majority_4 q n x2 (x2 + (1 : Int32)) u) else (f_X10_majority_4 q n x1 (x2 + (1 : Int32)) u)))))))
theorem f_X10_majority_4_s (q : zq) (n : Nat) (x1 : Int32) (x2 : Int32) (u : zU) : f_X10_majority_4 q (n + 1) x1 x2 u = if (16 : Int32) ≤ x2 then (some x1) else (if x1 = 0 then ((f_X10_isMajority (q) x2 u).bind (fun t1 => if t1 = true then (f_X10_majority_4 q n x2 (x2 + (1 : Int32)) u) else (f_X10_majority_4 q n x1 (x2 + (1 : Int32)) u))) else (z_let (f_J6_bitCount_0f7a4 x2 u) (fun r2 => z_let (f_J6_bitCount_0f7a4 x1 u) (fun r3 => if r3 ≤ r2 then (f_X10_majority_4 q n x1 (x2 + (1 : Int32)) u) else ((f_X10_isMajority (q) x2 u).bind (fun t4 => if t4 = true then (f_X10_majority_4 q n x2 (x2 + (1 : Int32)) u) else (f_X10_majority_4 q n x1 (x2 + (1 : Int32)) u))))))) := rfl
def f_X10_majority (q : zq)  (u : zU) : Option (Int32) :=
  f_X10_majority_4 q 5000 (0 : Int32) (1 : Int32) u
set_option maxRecDepth 100000 in
set_option maxHeartbeats 4000000 in
theorem l_X10_majority_4 {l : Launch} {D : zD} {A : Nat → Prop} {b : Nat} {p : Program} {e : Env} {s : State} {m : MethodId} {args : Array Value} {below : List Frame} {meth : Method} {c : Code} {G : zG} {q : zq} {v : Int32} {u : zU} (C0 : z_C p c cX10_majority s m args yX10_majority.cls D A) (hr : meth.sig.returnType = (some .int)) (hml : c.maxLocals = 4) (hlk : meth.locks = false) (hT : zTop G q) : ∀ (n : Nat) (x1 : Int32) (x2 : Int32) (H : Heap) (locs : List Loc) (ls : Array Slot), f_X10_majority_4 q n x1 x2 u = some v → z_W D A b (zg G q) u H → va_S A s.heap H locs → lv_has ls 4 [(0, .ref (b + 0)), (1, .int x1), (2, .int x2)] → W p l e { frames := 3, cells := 0, slots := 0, locals := 65 } s m args below meth c H locs 0 0 (z_End D A b (zg G q) below args s (some (.int v)) u) (F0 m 4 ls []) := by
  have hx := C0.1
  have hb := C0.2.1
  have hs := hT.1
  intro n
  induction n with
  | zero => intro x1 x2 H locs ls h hW hS hl; cases h
  | succ n ih =>
    intro x1 x2 H locs ls h hW hS hl
    rw [f_X10_majority_4_s] at h
    refine lv_iload_n hx hb dX10_majority_4 rfl (lv_at hl 2 rfl) ?_
    refine lv_bipush (v := (16 : Int32)) hx hb dX10_majority_5 (by decide) ?_
    refine lv_icmp_ge (tgt := 51) hx hb dX10_majority_7 (by decide) (fun hc => ?_) (fun hc => ?_)
    · replace h := z_t h hc
      clear hc
      refine lv_iload_n hx hb dX10_majority_51 rfl (lv_at hl 1 rfl) ?_
      cases h
      exact z_iret C0 hr hlk hW hS dX10_majority_52
    · replace h := z_f h hc
      clear hc
      refine lv_iload_n hx hb dX10_majority_10 rfl (lv_at hl 1 rfl) ?_
      refine lv_if_eq (tgt := 25) hx hb dX10_majority_11 (by decide) (fun hc => ?_) (fun hc => ?_)
      · replace h := z_t h hc
        clear hc
        refine lv_iconst (v := (1 : Int32)) hx hb dX10_majority_25 (by decide) ?_
        refine lv_goto (tgt := 30) hx hb dX10_majority_26 (by decide) ?_
        refine lv_istore_n (lv' := [(3, .int (1 : Int32)), (0, .ref (b + 0)), (1, .int x1), (2, .int x2)]) hx hb dX10_majority_30 rfl hl (by decide) rfl (fun ls hl => ?_)
        refine lv_iload_n hx hb dX10_majority_31 rfl (lv_at hl 0 rfl) ?_
        refine lv_if_eq (tgt := 45) hx hb dX10_majority_32 (by decide) (fun hc => ?_) (fun hc => ?_)
        · exact absurd hc (by decide)
        · clear hc
          refine lv_aload_n hx hb dX10_majority_35 rfl (lv_at hl 1 rfl) ?_
          refine lv_iload_n hx hb dX10_majority_36 rfl (lv_at hl 3 rfl) ?_
          replace h := z_bd h
          obtain ⟨t1, hq, h⟩ := h
          refine z_cvi (As := [.int x2]) C0 hml hl.1 hW hS (c_X10_isMajority l D A b G (q) hT x2 u hq) mv_X10_362 (zk1 (hs 0 (by decide))) ⟨Nat.le_of_ble_eq_true rfl, Nat.le_of_ble_eq_true rfl⟩ rfl rfl (Nat.le_of_ble_eq_true rfl) dX10_majority_37 (fun H locs hW hS => ?_)
          clear hq
          refine z_ifeqZ C0 (tgt := 45) dX10_majority_40 (by decide) (fun hc => ?_) (fun hc => ?_)
          · replace h := z_ff h hc
            clear hc
            refine lv_iinc (v := x2 + (1 : Int32)) (lv' := [(2, .int (x2 + (1 : Int32))), (3, .int (1 : Int32)), (0, .ref (b + 0)), (1, .int x1)]) hx hb dX10_majority_45 hl (k := 3) rfl rfl (by decide) rfl (fun ls hl => ?_)
            refine lv_goto (tgt := 4) hx hb dX10_majority_48 (by decide) ?_
            exact ih _ _ _ _ _ h hW hS (lv_sub hl [2, 3, 0] rfl)
          · replace h := z_t h hc
            clear hc
            refine lv_iload_n hx hb dX10_majority_43 rfl (lv_at hl 3 rfl) ?_
            refine lv_istore_n (lv' := [(1, .int x2), (3, .int (1 : Int32)), (0, .ref (b + 0)), (2, .int x2)]) hx hb dX10_majority_44 rfl hl (by decide) rfl (fun ls hl => ?_)
            refine lv_iinc (v := x2 + (1 : Int32)) (lv' := [(2, .int (x2 + (1 : Int32))), (1, .int x2), (3, .int (1 : Int32)), (0, .ref (b + 0))]) hx hb dX10_majority_45 hl (k := 3) rfl rfl (by decide) rfl (fun ls hl => ?_)
            refine lv_goto (tgt := 4) hx hb dX10_majority_48 (by decide) ?_
            exact ih _ _ _ _ _ h hW hS (lv_sub hl [3, 1, 0] rfl)
      · replace h := z_f h hc
        clear hc
        refine lv_iload_n hx hb dX10_majority_14 rfl (lv_at hl 2 rfl) ?_
        obtain ⟨r2, hq⟩ : ∃ y, f_J6_bitCount_0f7a4 x2 u = y := ⟨_, rfl⟩
        replace h := z_lz h hq
        refine z_csi (As := [.int x2]) C0 hml hl.1 hW hS (c_J6_bitCount_0f7a4 l D A b (zg G q) x2 u hq) ms_X10_231 ⟨Nat.le_of_ble_eq_true rfl, Nat.le_of_ble_eq_true rfl⟩ rfl rfl (Nat.le_of_ble_eq_true rfl) dX10_majority_15 (fun H locs hW hS => ?_)
        clear hq
        refine lv_iload_n hx hb dX10_majority_18 rfl (lv_at hl 1 rfl) ?_
        obtain ⟨r3, hq⟩ : ∃ y, f_J6_bitCount_0f7a4 x1 u = y := ⟨_, rfl⟩
        replace h := z_lz h hq
        refine z_csi (As := [.int x1]) C0 hml hl.1 hW hS (c_J6_bitCount_0f7a4 l D A b (zg G q) x1 u hq) ms_X10_231 ⟨Nat.le_of_ble_eq_true rfl, Nat.le_of_ble_eq_true rfl⟩ rfl rfl (Nat.le_of_ble_eq_true rfl) dX10_majority_19 (fun H locs hW hS => ?_)
        clear hq
        refine lv_icmp_ge (tgt := 29) hx hb dX10_majority_22 (by decide) (fun hc => ?_) (fun hc => ?_)
        · replace h := z_t h hc
          clear hc
          refine lv_iconst (v := (0 : Int32)) hx hb dX10_majority_29 (by decide) ?_
          refine lv_istore_n (lv' := [(3, .int (0 : Int32)), (0, .ref (b + 0)), (1, .int x1), (2, .int x2)]) hx hb dX10_majority_30 rfl hl (by decide) rfl (fun ls hl => ?_)
          refine lv_iload_n hx hb dX10_majority_31 rfl (lv_at hl 0 rfl) ?_
          refine lv_if_eq (tgt := 45) hx hb dX10_majority_32 (by decide) (fun hc => ?_) (fun hc => ?_)
          · clear hc
            refine lv_iinc (v := x2 + (1 : Int32)) (lv' := [(2, .int (x2 + (1 : Int32))), (3, .int (0 : Int32)), (0, .ref (b + 0)), (1, .int x1)]) hx hb dX10_majority_45 hl (k := 3) rfl rfl (by decide) rfl (fun ls hl => ?_)
            refine lv_goto (tgt := 4) hx hb dX10_majority_48 (by decide) ?_
            exact ih _ _ _ _ _ h hW hS (lv_sub hl [2, 3, 0] rfl)
          · exact absurd hc (by decide)
        · replace h := z_f h hc
          clear hc
          refine lv_iconst (v := (1 : Int32)) hx hb dX10_majority_25 (by decide) ?_
          refine lv_goto (tgt := 30) hx hb dX10_majority_26 (by decide) ?_
          refine lv_istore_n (lv' := [(3, .int (1 : Int32)), (0, .ref (b + 0)), (1, .int x1), (2, .int x2)]) hx hb dX10_majority_30 rfl hl (by decide) rfl (fun ls hl => ?_)
          refine lv_iload_n hx hb dX10_majority_31 rfl (lv_at hl 0 rfl) ?_
          refine lv_if_eq (tgt := 45) hx hb dX10_majority_32 (by decide) (fun hc => ?_) (fun hc => ?_)
          · exact absurd hc (by decide)
          · clear hc
            refine lv_aload_n hx hb dX10_majority_35 rfl (lv_at hl 1 rfl) ?_
            refine lv_iload_n hx hb dX10_majority_36 rfl (lv_at hl 3 rfl) ?_
            replace h := z_bd h
            obtain ⟨t4, hq, h⟩ := h
            refine z_cvi (As := [.int x2]) C0 hml hl.1 hW hS (c_X10_isMajority l D A b G (q) hT x2 u hq) mv_X10_362 (zk1 (hs 0 (by decide))) ⟨Nat.le_of_ble_eq_true rfl, Nat.le_of_ble_eq_true rfl⟩ rfl rfl (Nat.le_of_ble_eq_true rfl) dX10_majority_37 (fun H locs hW hS => ?_)
            clear hq
            refine z_ifeqZ C0 (tgt := 45) dX10_majority_40 (by decide) (fun hc => ?_) (fun hc => ?_)
            · replace h := z_ff h hc
              clear hc
              refine lv_iinc (v := x2 + (1 : Int32)) (lv' := [(2, .int (x2 + (1 : Int32))), (3, .int (1 : Int32)), (0, .ref (b + 0)), (1, .int x1)]) hx hb dX10_majority_45 hl (k := 3) rfl rfl (by decide) rfl (fun ls hl => ?_)
              refine lv_goto (tgt := 4) hx hb dX10_majority_48 (by decide) ?_
              exact ih _ _ _ _ _ h hW hS (lv_sub hl [2, 3, 0] rfl)
            · replace h := z_t h hc
              clear hc
              refine lv_iload_n hx hb dX10_majority_43 rfl (lv_at hl 3 rfl) ?_
              refine lv_istore_n (lv' := [(1, .int x2), (3, .int (1 : Int32)), (0, .ref (b + 0)), (2, .int x2)]) hx hb dX10_majority_44 rfl hl (by decide) rfl (fun ls hl => ?_)
              refine lv_iinc (v := x2 + (1 : Int32)) (lv' := [(2, .int (x2 + (1 : Int32))), (1, .int x2), (3, .int (1 : Int32)), (0, .ref (b + 0))]) hx hb dX10_majority_45 hl (k := 3) rfl rfl (by decide) rfl (fun ls hl => ?_)
              refine lv_goto (tgt := 4) hx hb dX10_majority_48 (by decide) ?_
              exact ih _ _ _ _ _ h hW hS (lv_sub hl [3, 1, 0] rfl)
theorem f_X10_majority_e (q : zq)  (u : zU) : f_X10_majority q u = f_X10_majority_4 q 5000 (0 : Int32) (1 : Int32) u := rfl
set_option maxRecDepth 100000 in
set_option maxHeartbeats 4000000 in
theorem c_X10_majority (l : Launch) (D : zD) (A : Nat → Prop) (b : Nat) (G : zG) (q : zq) (hT : zTop G q)  (u : zU) {v : Int32} (h : f_X10_majority q u = some v) : z_M l D A b (zg G q) yX10_majority cX10_majority 4 (some .int) 3 65 [.ref (b + 0)] u (some (.int v)) u := by
  refine z_enter (by decide) (Nat.le_of_ble_eq_true rfl) ?_
  intro p e s m below meth c ls C0 hr hml hlk hW hS hl
  have hl : lv_has ls 4 [(0, .ref (b + 0))] := hl
  have hx := C0.1
  have hb := C0.2.1
  have hs := hT.1
  rw [f_X10_majority_e] at h
  refine lv_iconst (v := (0 : Int32)) hx hb dX10_majority_0 (by decide) ?_
  refine lv_istore_n (lv' := [(1, .int (0 : Int32)), (0, .ref (b + 0))]) hx hb dX10_majority_1 rfl hl (by decide) rfl (fun ls hl => ?_)
  refine lv_iconst (v := (1 : Int32)) hx hb dX10_majority_2 (by decide) ?_
  refine lv_istore_n (lv' := [(2, .int (1 : Int32)), (1, .int (0 : Int32)), (0, .ref (b + 0))]) hx hb dX10_majority_3 rfl hl (by decide) rfl (fun ls hl => ?_)
  exact l_X10_majority_4 C0 hr hml hlk hT 5000 _ _ _ _ _ h hW hS (lv_sub hl [2, 1, 0] rfl)
def f_X10_rests_29 (q : zq) : Nat → Int32 → Int32 → Int32 → Int32 → zU → Option ((String ⊕ Int32) × zq × zU)
  | 0, _, _, _, _, _ => none
  | n + 1, x1, x2, x3, x4, u =>
    if (4 : Int32) ≤ x4 then (some (.inr x3, q, u)) else (z_let (f_X10_priceBy (q) x4 u) (fun r7 => z_let (f_X10_priceBy (q) (x4 ^^^ (2 : Int32)) u) (fun r8 => z_b2 (f_X10_purseOf (q) x1 r8 u) (fun r9 u10 => z_b2 (f_X10_purseOf (q) x1 r7 u10) (fun r11 u12 => if r11 < r9 then (z_let (f_X10_priceBy (q) (x4 ^^^ (1 : Int32)) u12) (fun r13 => z_b2 (f_X10_purseOf (q) x2 r13 u12) (fun r14 u15 => z_b2 (f_X10_purseOf (q) x2 r7 u15) (fun r16 u17 => if r16 < r14 then (f_X10_rests_29 q n x1 x2 x3 (x4 + (1 : Int32)) u17) else (f_X10_rests_29 q n x1 x2 x3 (x4 + (1 : Int32)) u17))))) else (z_let (f_X10_priceBy (q) (x4 ^^^ (1 : Int32)) u12) (fun r18 => z_b2 (f_X10_purseOf (q) x2 r18 u12) (fun r19 u20 => z_b2 (f_X10_purseOf (q) x2 r7 u20) (fun r21 u22 => if r21 < r19 then (f_X10_rests_29 q n x1 x2 x3 (x4 + (1 : Int32)) u22) else (z_let (x3 ||| ((1 : Int32) <<< (x4 &&& 31))) (fun z23 => f_X10_rests_29 q n x1 x2 z23 (x4 + (1 : Int32)) u22)))))))))))
theorem f_X10_rests_29_s (q : zq) (n : Nat) (x1 : Int32) (x2 : Int32) (x3 : Int32) (x4 : Int32) (u : zU) : f_X10_rests_29 q (n + 1) x1 x2 x3 x4 u = if (4 : Int32) ≤ x4 then (some (.inr x3, q, u)) else (z_let (f_X10_priceBy (q) x4 u) (fun r7 => z_let (f_X10_priceBy (q) (x4 ^^^ (2 : Int32)) u) (fun r8 => z_b2 (f_X10_purseOf (q) x1 r8 u) (fun r9 u10 => z_b2 (f_X10_purseOf (q) x1 r7 u10) (fun r11 u12 => if r11 < r9 then (z_let (f_X10_priceBy (q) (x4 ^^^ (1 : Int32)) u12) (fun r13 => z_b2 (f_X10_purseOf (q) x2 r13 u12) (fun r14 u15 => z_b2 (f_X10_purseOf (q) x2 r7 u15) (fun r16 u17 => if r16 < r14 then (f_X10_rests_29 q n x1 x2 x3 (x4 + (1 : Int32)) u17) else (f_X10_rests_29 q n x1 x2 x3 (x4 + (1 : Int32)) u17))))) else (z_let (f_X10_priceBy (q) (x4 ^^^ (1 : Int32)) u12) (fun r18 => z_b2 (f_X10_purseOf (q) x2 r18 u12) (fun r19 u20 => z_b2 (f_X10_purseOf (q) x2 r7 u20) (fun r21 u22 => if r21 < r19 then (f_X10_rests_29 q n x1 x2 x3 (x4 + (1 : Int32)) u22) else (z_let (x3 ||| ((1 : Int32) <<< (x4 &&& 31))) (fun z23 => f_X10_rests_29 q n x1 x2 z23 (x4 + (1 : Int32)) u22))))))))))) := rfl
def f_X10_rests (q : zq) (a1 : Int32) (a2 : Int32) (u : zU) : Option ((String ⊕ Int32) × zq × zU) :=
  z_bx (f_X10_needParty (q) a1 u) (fun w1 q3 u2 => z_bx (f_X10_needParty (q3) a2 u2) (fun w4 q6 u5 => if a1 = a2 then (some (.inl "java/lang/IllegalArgumentException", q6, u5)) else (f_X10_rests_29 q6 5000 a1 a2 (0 : Int32) (0 : Int32) u5)))
set_option maxRecDepth 100000 in
set_option maxHeartbeats 4000000 in
theorem l_X10_rests_29 {l : Launch} {D : zD} {A : Nat → Prop} {b : Nat} {p : Program} {e : Env} {s : State} {m : MethodId} {args : Array Value} {below : List Frame} {meth : Method} {c : Code} {G : zG} {q : zq} {v : Int32} {q' : zq} {u' : zU} (C0 : z_C p c cX10_rests s m args yX10_rests.cls D A) (hr : meth.sig.returnType = (some .int)) (hml : c.maxLocals = 8) (hlk : meth.locks = false) (hT : zTop G q) : ∀ (n : Nat) (x1 : Int32) (x2 : Int32) (x3 : Int32) (x4 : Int32) (u : zU) (H : Heap) (locs : List Loc) (ls : Array Slot), f_X10_rests_29 q n x1 x2 x3 x4 u = some (.inr v, q', u') → z_W D A b (zg G q) u H → va_S A s.heap H locs → lv_has ls 8 [(0, .ref (b + 0)), (1, .int x1), (2, .int x2), (3, .int x3), (4, .int x4)] → W p l e { frames := 7, cells := 0, slots := 0, locals := 125 } s m args below meth c H locs 0 0 (z_EndT D A b G below args s (some (.int v)) q' u') (F0 m 29 ls []) := by
  have hx := C0.1
  have hb := C0.2.1
  have hs := hT.1
  intro n
  induction n with
  | zero => intro x1 x2 x3 x4 u H locs ls h hW hS hl; cases h
  | succ n ih =>
    intro x1 x2 x3 x4 u H locs ls h hW hS hl
    rw [f_X10_rests_29_s] at h
    refine lv_iload hx hb dX10_rests_29 (lv_at hl 4 rfl) ?_
    refine lv_iconst (v := (4 : Int32)) hx hb dX10_rests_31 (by decide) ?_
    refine lv_icmp_ge (tgt := 126) hx hb dX10_rests_32 (by decide) (fun hc => ?_) (fun hc => ?_)
    · replace h := z_t h hc
      clear hc
      refine lv_iload_n hx hb dX10_rests_126 rfl (lv_at hl 3 rfl) ?_
      cases h
      exact z_iretT C0 hr hlk hW hS hT dX10_rests_127
    · replace h := z_f h hc
      clear hc
      refine lv_aload_n hx hb dX10_rests_35 rfl (lv_at hl 0 rfl) ?_
      refine lv_iload hx hb dX10_rests_36 (lv_at hl 4 rfl) ?_
      obtain ⟨r7, hq⟩ : ∃ y, f_X10_priceBy (q) x4 u = y := ⟨_, rfl⟩
      replace h := z_lz h hq
      refine z_cvi (As := [.int x4]) C0 hml hl.1 hW hS (c_X10_priceBy l D A b G (q) hT x4 u hq) mv_X10_367 (zk1 (hs 0 (by decide))) ⟨Nat.le_of_ble_eq_true rfl, Nat.le_of_ble_eq_true rfl⟩ rfl rfl (Nat.le_of_ble_eq_true rfl) dX10_rests_38 (fun H locs hW hS => ?_)
      clear hq
      refine lv_istore (lv' := [(5, .int r7), (0, .ref (b + 0)), (1, .int x1), (2, .int x2), (3, .int x3), (4, .int x4)]) hx hb dX10_rests_41 hl (by decide) rfl (fun ls hl => ?_)
      refine lv_aload_n hx hb dX10_rests_43 rfl (lv_at hl 1 rfl) ?_
      refine lv_iload_n hx hb dX10_rests_44 rfl (lv_at hl 2 rfl) ?_
      refine lv_aload_n hx hb dX10_rests_45 rfl (lv_at hl 1 rfl) ?_
      refine lv_iload hx hb dX10_rests_46 (lv_at hl 5 rfl) ?_
      refine lv_iconst (v := (2 : Int32)) hx hb dX10_rests_48 (by decide) ?_
      refine lv_ixor hx hb dX10_rests_49 ?_
      obtain ⟨r8, hq⟩ : ∃ y, f_X10_priceBy (q) (x4 ^^^ (2 : Int32)) u = y := ⟨_, rfl⟩
      replace h := z_lz h hq
      refine z_cvi (As := [.int (x4 ^^^ (2 : Int32))]) C0 hml hl.1 hW hS (c_X10_priceBy l D A b G (q) hT (x4 ^^^ (2 : Int32)) u hq) mv_X10_367 (zk1 (hs 0 (by decide))) ⟨Nat.le_of_ble_eq_true rfl, Nat.le_of_ble_eq_true rfl⟩ rfl rfl (Nat.le_of_ble_eq_true rfl) dX10_rests_50 (fun H locs hW hS => ?_)
      clear hq
      replace h := z_bd2 h
      obtain ⟨r9, u10, hq, h⟩ := h
      refine z_cvi (As := [.int x1, .int r8]) C0 hml hl.1 hW hS (c_X10_purseOf l D A b G (q) hT x1 r8 u hq) mv_X10_370 (zk1 (hs 0 (by decide))) ⟨Nat.le_of_ble_eq_true rfl, Nat.le_of_ble_eq_true rfl⟩ rfl rfl (Nat.le_of_ble_eq_true rfl) dX10_rests_53 (fun H locs hW hS => ?_)
      clear hq
      refine lv_aload_n hx hb dX10_rests_56 rfl (lv_at hl 1 rfl) ?_
      refine lv_iload_n hx hb dX10_rests_57 rfl (lv_at hl 2 rfl) ?_
      refine lv_iload hx hb dX10_rests_58 (lv_at hl 0 rfl) ?_
      replace h := z_bd2 h
      obtain ⟨r11, u12, hq, h⟩ := h
      refine z_cvi (As := [.int x1, .int r7]) C0 hml hl.1 hW hS (c_X10_purseOf l D A b G (q) hT x1 r7 u10 hq) mv_X10_370 (zk1 (hs 0 (by decide))) ⟨Nat.le_of_ble_eq_true rfl, Nat.le_of_ble_eq_true rfl⟩ rfl rfl (Nat.le_of_ble_eq_true rfl) dX10_rests_60 (fun H locs hW hS => ?_)
      clear hq
      refine lv_icmp_gt (tgt := 70) hx hb dX10_rests_63 (by decide) (fun hc => ?_) (fun hc => ?_)
      · replace h := z_t h hc
        clear hc
        refine lv_iconst (v := (0 : Int32)) hx hb dX10_rests_70 (by decide) ?_
        refine lv_istore (lv' := [(6, .int (0 : Int32)), (5, .int r7), (0, .ref (b + 0)), (1, .int x1), (2, .int x2), (3, .int x3), (4, .int x4)]) hx hb dX10_rests_71 hl (by decide) rfl (fun ls hl => ?_)
        refine lv_aload_n hx hb dX10_rests_73 rfl (lv_at hl 2 rfl) ?_
        refine lv_iload_n hx hb dX10_rests_74 rfl (lv_at hl 4 rfl) ?_
        refine lv_aload_n hx hb dX10_rests_75 rfl (lv_at hl 2 rfl) ?_
        refine lv_iload hx hb dX10_rests_76 (lv_at hl 6 rfl) ?_
        refine lv_iconst (v := (1 : Int32)) hx hb dX10_rests_78 (by decide) ?_
        refine lv_ixor hx hb dX10_rests_79 ?_
        obtain ⟨r13, hq⟩ : ∃ y, f_X10_priceBy (q) (x4 ^^^ (1 : Int32)) u12 = y := ⟨_, rfl⟩
        replace h := z_lz h hq
        refine z_cvi (As := [.int (x4 ^^^ (1 : Int32))]) C0 hml hl.1 hW hS (c_X10_priceBy l D A b G (q) hT (x4 ^^^ (1 : Int32)) u12 hq) mv_X10_367 (zk1 (hs 0 (by decide))) ⟨Nat.le_of_ble_eq_true rfl, Nat.le_of_ble_eq_true rfl⟩ rfl rfl (Nat.le_of_ble_eq_true rfl) dX10_rests_80 (fun H locs hW hS => ?_)
        clear hq
        replace h := z_bd2 h
        obtain ⟨r14, u15, hq, h⟩ := h
        refine z_cvi (As := [.int x2, .int r13]) C0 hml hl.1 hW hS (c_X10_purseOf l D A b G (q) hT x2 r13 u12 hq) mv_X10_370 (zk1 (hs 0 (by decide))) ⟨Nat.le_of_ble_eq_true rfl, Nat.le_of_ble_eq_true rfl⟩ rfl rfl (Nat.le_of_ble_eq_true rfl) dX10_rests_83 (fun H locs hW hS => ?_)
        clear hq
        refine lv_aload_n hx hb dX10_rests_86 rfl (lv_at hl 2 rfl) ?_
        refine lv_iload_n hx hb dX10_rests_87 rfl (lv_at hl 4 rfl) ?_
        refine lv_iload hx hb dX10_rests_88 (lv_at hl 1 rfl) ?_
        replace h := z_bd2 h
        obtain ⟨r16, u17, hq, h⟩ := h
        refine z_cvi (As := [.int x2, .int r7]) C0 hml hl.1 hW hS (c_X10_purseOf l D A b G (q) hT x2 r7 u15 hq) mv_X10_370 (zk1 (hs 0 (by decide))) ⟨Nat.le_of_ble_eq_true rfl, Nat.le_of_ble_eq_true rfl⟩ rfl rfl (Nat.le_of_ble_eq_true rfl) dX10_rests_90 (fun H locs hW hS => ?_)
        clear hq
        refine lv_icmp_gt (tgt := 100) hx hb dX10_rests_93 (by decide) (fun hc => ?_) (fun hc => ?_)
        · replace h := z_t h hc
          clear hc
          refine lv_iconst (v := (0 : Int32)) hx hb dX10_rests_100 (by decide) ?_
          refine lv_istore (lv' := [(7, .int (0 : Int32)), (6, .int (0 : Int32)), (5, .int r7), (0, .ref (b + 0)), (1, .int x1), (2, .int x2), (3, .int x3), (4, .int x4)]) hx hb dX10_rests_101 hl (by decide) rfl (fun ls hl => ?_)
          refine lv_iload hx hb dX10_rests_103 (lv_at hl 1 rfl) ?_
          refine lv_if_eq (tgt := 120) hx hb dX10_rests_105 (by decide) (fun hc => ?_) (fun hc => ?_)
          · clear hc
            refine lv_iinc (v := x4 + (1 : Int32)) (lv' := [(4, .int (x4 + (1 : Int32))), (7, .int (0 : Int32)), (6, .int (0 : Int32)), (5, .int r7), (0, .ref (b + 0)), (1, .int x1), (2, .int x2), (3, .int x3)]) hx hb dX10_rests_120 hl (k := 7) rfl rfl (by decide) rfl (fun ls hl => ?_)
            refine lv_goto (tgt := 29) hx hb dX10_rests_123 (by decide) ?_
            exact ih _ _ _ _ _ _ _ _ h hW hS (lv_sub hl [4, 5, 6, 7, 0] rfl)
          · exact absurd hc (by decide)
        · replace h := z_f h hc
          clear hc
          refine lv_iconst (v := (1 : Int32)) hx hb dX10_rests_96 (by decide) ?_
          refine lv_goto (tgt := 101) hx hb dX10_rests_97 (by decide) ?_
          refine lv_istore (lv' := [(7, .int (1 : Int32)), (6, .int (0 : Int32)), (5, .int r7), (0, .ref (b + 0)), (1, .int x1), (2, .int x2), (3, .int x3), (4, .int x4)]) hx hb dX10_rests_101 hl (by decide) rfl (fun ls hl => ?_)
          refine lv_iload hx hb dX10_rests_103 (lv_at hl 1 rfl) ?_
          refine lv_if_eq (tgt := 120) hx hb dX10_rests_105 (by decide) (fun hc => ?_) (fun hc => ?_)
          · clear hc
            refine lv_iinc (v := x4 + (1 : Int32)) (lv' := [(4, .int (x4 + (1 : Int32))), (7, .int (1 : Int32)), (6, .int (0 : Int32)), (5, .int r7), (0, .ref (b + 0)), (1, .int x1), (2, .int x2), (3, .int x3)]) hx hb dX10_rests_120 hl (k := 7) rfl rfl (by decide) rfl (fun ls hl => ?_)
            refine lv_goto (tgt := 29) hx hb dX10_rests_123 (by decide) ?_
            exact ih _ _ _ _ _ _ _ _ h hW hS (lv_sub hl [4, 5, 6, 7, 0] rfl)
          · exact absurd hc (by decide)
      · replace h := z_f h hc
        clear hc
        refine lv_iconst (v := (1 : Int32)) hx hb dX10_rests_66 (by decide) ?_
        refine lv_goto (tgt := 71) hx hb dX10_rests_67 (by decide) ?_
        refine lv_istore (lv' := [(6, .int (1 : Int32)), (5, .int r7), (0, .ref (b + 0)), (1, .int x1), (2, .int x2), (3, .int x3), (4, .int x4)]) hx hb dX10_rests_71 hl (by decide) rfl (fun ls hl => ?_)
        refine lv_aload_n hx hb dX10_rests_73 rfl (lv_at hl 2 rfl) ?_
        refine lv_iload_n hx hb dX10_rests_74 rfl (lv_at hl 4 rfl) ?_
        refine lv_aload_n hx hb dX10_rests_75 rfl (lv_at hl 2 rfl) ?_
        refine lv_iload hx hb dX10_rests_76 (lv_at hl 6 rfl) ?_
        refine lv_iconst (v := (1 : Int32)) hx hb dX10_rests_78 (by decide) ?_
        refine lv_ixor hx hb dX10_rests_79 ?_
        obtain ⟨r18, hq⟩ : ∃ y, f_X10_priceBy (q) (x4 ^^^ (1 : Int32)) u12 = y := ⟨_, rfl⟩
        replace h := z_lz h hq
        refine z_cvi (As := [.int (x4 ^^^ (1 : Int32))]) C0 hml hl.1 hW hS (c_X10_priceBy l D A b G (q) hT (x4 ^^^ (1 : Int32)) u12 hq) mv_X10_367 (zk1 (hs 0 (by decide))) ⟨Nat.le_of_ble_eq_true rfl, Nat.le_of_ble_eq_true rfl⟩ rfl rfl (Nat.le_of_ble_eq_true rfl) dX10_rests_80 (fun H locs hW hS => ?_)
        clear hq
        replace h := z_bd2 h
        obtain ⟨r19, u20, hq, h⟩ := h
        refine z_cvi (As := [.int x2, .int r18]) C0 hml hl.1 hW hS (c_X10_purseOf l D A b G (q) hT x2 r18 u12 hq) mv_X10_370 (zk1 (hs 0 (by decide))) ⟨Nat.le_of_ble_eq_true rfl, Nat.le_of_ble_eq_true rfl⟩ rfl rfl (Nat.le_of_ble_eq_true rfl) dX10_rests_83 (fun H locs hW hS => ?_)
        clear hq
        refine lv_aload_n hx hb dX10_rests_86 rfl (lv_at hl 2 rfl) ?_
        refine lv_iload_n hx hb dX10_rests_87 rfl (lv_at hl 4 rfl) ?_
        refine lv_iload hx hb dX10_rests_88 (lv_at hl 1 rfl) ?_
        replace h := z_bd2 h
        obtain ⟨r21, u22, hq, h⟩ := h
        refine z_cvi (As := [.int x2, .int r7]) C0 hml hl.1 hW hS (c_X10_purseOf l D A b G (q) hT x2 r7 u20 hq) mv_X10_370 (zk1 (hs 0 (by decide))) ⟨Nat.le_of_ble_eq_true rfl, Nat.le_of_ble_eq_true rfl⟩ rfl rfl (Nat.le_of_ble_eq_true rfl) dX10_rests_90 (fun H locs hW hS => ?_)
        clear hq
        refine lv_icmp_gt (tgt := 100) hx hb dX10_rests_93 (by decide) (fun hc => ?_) (fun hc => ?_)
        · replace h := z_t h hc
          clear hc
          refine lv_iconst (v := (0 : Int32)) hx hb dX10_rests_100 (by decide) ?_
          refine lv_istore (lv' := [(7, .int (0 : Int32)), (6, .int (1 : Int32)), (5, .int r7), (0, .ref (b + 0)), (1, .int x1), (2, .int x2), (3, .int x3), (4, .int x4)]) hx hb dX10_rests_101 hl (by decide) rfl (fun ls hl => ?_)
          refine lv_iload hx hb dX10_rests_103 (lv_at hl 1 rfl) ?_
          refine lv_if_eq (tgt := 120) hx hb dX10_rests_105 (by decide) (fun hc => ?_) (fun hc => ?_)
          · exact absurd hc (by decide)
          · clear hc
            refine lv_iload hx hb dX10_rests_108 (lv_at hl 0 rfl) ?_
            refine lv_if_eq (tgt := 120) hx hb dX10_rests_110 (by decide) (fun hc => ?_) (fun hc => ?_)
            · clear hc
              refine lv_iinc (v := x4 + (1 : Int32)) (lv' := [(4, .int (x4 + (1 : Int32))), (7, .int (0 : Int32)), (6, .int (1 : Int32)), (5, .int r7), (0, .ref (b + 0)), (1, .int x1), (2, .int x2), (3, .int x3)]) hx hb dX10_rests_120 hl (k := 7) rfl rfl (by decide) rfl (fun ls hl => ?_)
              refine lv_goto (tgt := 29) hx hb dX10_rests_123 (by decide) ?_
              exact ih _ _ _ _ _ _ _ _ h hW hS (lv_sub hl [4, 5, 6, 7, 0] rfl)
            · exact absurd hc (by decide)
        · replace h := z_f h hc
          clear hc
          refine lv_iconst (v := (1 : Int32)) hx hb dX10_rests_96 (by decide) ?_
          refine lv_goto (tgt := 101) hx hb dX10_rests_97 (by decide) ?_
          refine lv_istore (lv' := [(7, .int (1 : Int32)), (6, .int (1 : Int32)), (5, .int r7), (0, .ref (b + 0)), (1, .int x1), (2, .int x2), (3, .int x3), (4, .int x4)]) hx hb dX10_rests_101 hl (by decide) rfl (fun ls hl => ?_)
          refine lv_iload hx hb dX10_rests_103 (lv_at hl 1 rfl) ?_
          refine lv_if_eq (tgt := 120) hx hb dX10_rests_105 (by decide) (fun hc => ?_) (fun hc => ?_)
          · exact absurd hc (by decide)
          · clear hc
            refine lv_iload hx hb dX10_rests_108 (lv_at hl 0 rfl) ?_
            refine lv_if_eq (tgt := 120) hx hb dX10_rests_110 (by decide) (fun hc => ?_) (fun hc => ?_)
            · exact absurd hc (by decide)
            · clear hc
              refine lv_iload_n hx hb dX10_rests_113 rfl (lv_at hl 6 rfl) ?_
              refine lv_iconst (v := (1 : Int32)) hx hb dX10_rests_114 (by decide) ?_
              refine lv_iload hx hb dX10_rests_115 (lv_at hl 7 rfl) ?_
              refine lv_ishl hx hb dX10_rests_117 ?_
              refine lv_ior hx hb dX10_rests_118 ?_
              refine lv_topi (fun z23 e1 => ?_)
              replace h := z_ly h e1
              clear e1
              refine lv_istore_n (lv' := [(3, .int z23), (7, .int (1 : Int32)), (6, .int (1 : Int32)), (5, .int r7), (0, .ref (b + 0)), (1, .int x1), (2, .int x2), (4, .int x4)]) hx hb dX10_rests_119 rfl hl (by decide) rfl (fun ls hl => ?_)
              refine lv_iinc (v := x4 + (1 : Int32)) (lv' := [(4, .int (x4 + (1 : Int32))), (3, .int z23), (7, .int (1 : Int32)), (6, .int (1 : Int32)), (5, .int r7), (0, .ref (b + 0)), (1, .int x1), (2, .int x2)]) hx hb dX10_rests_120 hl (k := 7) rfl rfl (by decide) rfl (fun ls hl => ?_)
              refine lv_goto (tgt := 29) hx hb dX10_rests_123 (by decide) ?_
              exact ih _ _ _ _ _ _ _ _ h hW hS (lv_sub hl [5, 6, 7, 1, 0] rfl)
theorem f_X10_rests_e (q : zq) (a1 : Int32) (a2 : Int32) (u : zU) : f_X10_rests q a1 a2 u = z_bx (f_X10_needParty (q) a1 u) (fun w1 q3 u2 => z_bx (f_X10_needParty (q3) a2 u2) (fun w4 q6 u5 => if a1 = a2 then (some (.inl "java/lang/IllegalArgumentException", q6, u5)) else (f_X10_rests_29 q6 5000 a1 a2 (0 : Int32) (0 : Int32) u5))) := rfl
set_option maxRecDepth 100000 in
set_option maxHeartbeats 4000000 in
theorem c_X10_rests (l : Launch) (D : zD) (A : Nat → Prop) (b : Nat) (G : zG) (q : zq) (hT : zTop G q) (a1 : Int32) (a2 : Int32) (u : zU) {v : Int32} {q' : zq} {u' : zU} (h : f_X10_rests q a1 a2 u = some (.inr v, q', u')) : z_MT l D A b G yX10_rests cX10_rests 8 (some .int) 7 125 [.ref (b + 0), .int a1, .int a2] q u (some (.int v)) q' u' := by
  refine z_enterT (by decide) (Nat.le_of_ble_eq_true rfl) ?_
  intro p e s m below meth c ls C0 hr hml hlk hW hS hl
  have hl : lv_has ls 8 [(0, .ref (b + 0)), (1, .int a1), (2, .int a2)] := hl
  have hx := C0.1
  have hb := C0.2.1
  have hs := hT.1
  rw [f_X10_rests_e] at h
  refine lv_iload_n hx hb dX10_rests_0 rfl (lv_at hl 1 rfl) ?_
  replace h := z_bxd h
  rcases h with ⟨E1, hq, hE⟩ | ⟨w1, q3, u2, hq, h⟩
  · cases hE
  · refine z_csTv (As := [.int a1]) C0 hml hl.1 hW hS (c_X10_needParty l D A b G (q) hT a1 u hq) ms_X10_194 ⟨Nat.le_of_ble_eq_true rfl, Nat.le_of_ble_eq_true rfl⟩ rfl rfl (Nat.le_of_ble_eq_true rfl) dX10_rests_1 (fun H locs hW hS hT => ?_)
    clear hq
    have hs := hT.1
    refine lv_iload_n hx hb dX10_rests_4 rfl (lv_at hl 2 rfl) ?_
    replace h := z_bxd h
    rcases h with ⟨E1, hq, hE⟩ | ⟨w4, q6, u5, hq, h⟩
    · cases hE
    · refine z_csTv (As := [.int a2]) C0 hml hl.1 hW hS (c_X10_needParty l D A b G (q3) hT a2 u2 hq) ms_X10_194 ⟨Nat.le_of_ble_eq_true rfl, Nat.le_of_ble_eq_true rfl⟩ rfl rfl (Nat.le_of_ble_eq_true rfl) dX10_rests_5 (fun H locs hW hS hT => ?_)
      clear hq
      have hs := hT.1
      refine lv_iload_n hx hb dX10_rests_8 rfl (lv_at hl 1 rfl) ?_
      refine lv_iload_n hx hb dX10_rests_9 rfl (lv_at hl 2 rfl) ?_
      refine lv_icmp_ne (tgt := 24) hx hb dX10_rests_10 (by decide) (fun hc => ?_) (fun hc => ?_)
      · replace h := z_f h hc
        clear hc
        refine lv_iconst (v := (0 : Int32)) hx hb dX10_rests_24 (by decide) ?_
        refine lv_istore_n (lv' := [(3, .int (0 : Int32)), (0, .ref (b + 0)), (1, .int a1), (2, .int a2)]) hx hb dX10_rests_25 rfl hl (by decide) rfl (fun ls hl => ?_)
        refine lv_iconst (v := (0 : Int32)) hx hb dX10_rests_26 (by decide) ?_
        refine lv_istore (lv' := [(4, .int (0 : Int32)), (3, .int (0 : Int32)), (0, .ref (b + 0)), (1, .int a1), (2, .int a2)]) hx hb dX10_rests_27 hl (by decide) rfl (fun ls hl => ?_)
        exact l_X10_rests_29 C0 hr hml hlk hT 5000 _ _ _ _ _ _ _ _ h hW hS (lv_sub hl [2, 3, 4, 1, 0] rfl)
      · replace h := z_t h hc
        clear hc
        cases h
set_option maxRecDepth 100000 in
set_option maxHeartbeats 4000000 in
theorem lx_X10_rests_29 {l : Launch} {D : zD} {A : Nat → Prop} {b : Nat} {p : Program} {e : Env} {s : State} {m : MethodId} {args : Array Value} {below : List Frame} {meth : Method} {c : Code} {G : zG} {q : zq} {E : String} {q' : zq} {u' : zU} (C0 : z_C p c cX10_rests s m args yX10_rests.cls D A) (hex : ∀ x ∈ c.exceptionTable.toList, False) (hml : c.maxLocals = 8) (hlk : meth.locks = false) (hT : zTop G q) (hst : l.stackTraces = false) : ∀ (n : Nat) (x1 : Int32) (x2 : Int32) (x3 : Int32) (x4 : Int32) (u : zU) (H : Heap) (locs : List Loc) (ls : Array Slot), f_X10_rests_29 q n x1 x2 x3 x4 u = some (.inl E, q', u') → z_W D A b (zg G q) u H → va_S A s.heap H locs → lv_has ls 8 [(0, .ref (b + 0)), (1, .int x1), (2, .int x2), (3, .int x3), (4, .int x4)] → W p l e { frames := 7, cells := 1, slots := 6, locals := 125 } s m args below meth c H locs 0 0 (z_EndX D A b G below args s E q' u') (F0 m 29 ls []) := by
  have hx := C0.1
  have hb := C0.2.1
  have hs := hT.1
  intro n
  induction n with
  | zero => intro x1 x2 x3 x4 u H locs ls h hW hS hl; cases h
  | succ n ih =>
    intro x1 x2 x3 x4 u H locs ls h hW hS hl
    rw [f_X10_rests_29_s] at h
    refine lv_iload hx hb dX10_rests_29 (lv_at hl 4 rfl) ?_
    refine lv_iconst (v := (4 : Int32)) hx hb dX10_rests_31 (by decide) ?_
    refine lv_icmp_ge (tgt := 126) hx hb dX10_rests_32 (by decide) (fun hc => ?_) (fun hc => ?_)
    · replace h := z_t h hc
      clear hc
      refine lv_iload_n hx hb dX10_rests_126 rfl (lv_at hl 3 rfl) ?_
      cases h
    · replace h := z_f h hc
      clear hc
      refine lv_aload_n hx hb dX10_rests_35 rfl (lv_at hl 0 rfl) ?_
      refine lv_iload hx hb dX10_rests_36 (lv_at hl 4 rfl) ?_
      obtain ⟨r7, hq⟩ : ∃ y, f_X10_priceBy (q) x4 u = y := ⟨_, rfl⟩
      replace h := z_lz h hq
      refine z_cvi (As := [.int x4]) C0 hml hl.1 hW hS (c_X10_priceBy l D A b G (q) hT x4 u hq) mv_X10_367 (zk1 (hs 0 (by decide))) ⟨Nat.le_of_ble_eq_true rfl, Nat.le_of_ble_eq_true rfl⟩ rfl rfl (Nat.le_of_ble_eq_true rfl) dX10_rests_38 (fun H locs hW hS => ?_)
      clear hq
      refine lv_istore (lv' := [(5, .int r7), (0, .ref (b + 0)), (1, .int x1), (2, .int x2), (3, .int x3), (4, .int x4)]) hx hb dX10_rests_41 hl (by decide) rfl (fun ls hl => ?_)
      refine lv_aload_n hx hb dX10_rests_43 rfl (lv_at hl 1 rfl) ?_
      refine lv_iload_n hx hb dX10_rests_44 rfl (lv_at hl 2 rfl) ?_
      refine lv_aload_n hx hb dX10_rests_45 rfl (lv_at hl 1 rfl) ?_
      refine lv_iload hx hb dX10_rests_46 (lv_at hl 5 rfl) ?_
      refine lv_iconst (v := (2 : Int32)) hx hb dX10_rests_48 (by decide) ?_
      refine lv_ixor hx hb dX10_rests_49 ?_
      obtain ⟨r8, hq⟩ : ∃ y, f_X10_priceBy (q) (x4 ^^^ (2 : Int32)) u = y := ⟨_, rfl⟩
      replace h := z_lz h hq
      refine z_cvi (As := [.int (x4 ^^^ (2 : Int32))]) C0 hml hl.1 hW hS (c_X10_priceBy l D A b G (q) hT (x4 ^^^ (2 : Int32)) u hq) mv_X10_367 (zk1 (hs 0 (by decide))) ⟨Nat.le_of_ble_eq_true rfl, Nat.le_of_ble_eq_true rfl⟩ rfl rfl (Nat.le_of_ble_eq_true rfl) dX10_rests_50 (fun H locs hW hS => ?_)
      clear hq
      replace h := z_bd2 h
      obtain ⟨r9, u10, hq, h⟩ := h
      refine z_cvi (As := [.int x1, .int r8]) C0 hml hl.1 hW hS (c_X10_purseOf l D A b G (q) hT x1 r8 u hq) mv_X10_370 (zk1 (hs 0 (by decide))) ⟨Nat.le_of_ble_eq_true rfl, Nat.le_of_ble_eq_true rfl⟩ rfl rfl (Nat.le_of_ble_eq_true rfl) dX10_rests_53 (fun H locs hW hS => ?_)
      clear hq
      refine lv_aload_n hx hb dX10_rests_56 rfl (lv_at hl 1 rfl) ?_
      refine lv_iload_n hx hb dX10_rests_57 rfl (lv_at hl 2 rfl) ?_
      refine lv_iload hx hb dX10_rests_58 (lv_at hl 0 rfl) ?_
      replace h := z_bd2 h
      obtain ⟨r11, u12, hq, h⟩ := h
      refine z_cvi (As := [.int x1, .int r7]) C0 hml hl.1 hW hS (c_X10_purseOf l D A b G (q) hT x1 r7 u10 hq) mv_X10_370 (zk1 (hs 0 (by decide))) ⟨Nat.le_of_ble_eq_true rfl, Nat.le_of_ble_eq_true rfl⟩ rfl rfl (Nat.le_of_ble_eq_true rfl) dX10_rests_60 (fun H locs hW hS => ?_)
      clear hq
      refine lv_icmp_gt (tgt := 70) hx hb dX10_rests_63 (by decide) (fun hc => ?_) (fun hc => ?_)
      · replace h := z_t h hc
        clear hc
        refine lv_iconst (v := (0 : Int32)) hx hb dX10_rests_70 (by decide) ?_
        refine lv_istore (lv' := [(6, .int (0 : Int32)), (5, .int r7), (0, .ref (b + 0)), (1, .int x1), (2, .int x2), (3, .int x3), (4, .int x4)]) hx hb dX10_rests_71 hl (by decide) rfl (fun ls hl => ?_)
        refine lv_aload_n hx hb dX10_rests_73 rfl (lv_at hl 2 rfl) ?_
        refine lv_iload_n hx hb dX10_rests_74 rfl (lv_at hl 4 rfl) ?_
        refine lv_aload_n hx hb dX10_rests_75 rfl (lv_at hl 2 rfl) ?_
        refine lv_iload hx hb dX10_rests_76 (lv_at hl 6 rfl) ?_
        refine lv_iconst (v := (1 : Int32)) hx hb dX10_rests_78 (by decide) ?_
        refine lv_ixor hx hb dX10_rests_79 ?_
        obtain ⟨r13, hq⟩ : ∃ y, f_X10_priceBy (q) (x4 ^^^ (1 : Int32)) u12 = y := ⟨_, rfl⟩
        replace h := z_lz h hq
        refine z_cvi (As := [.int (x4 ^^^ (1 : Int32))]) C0 hml hl.1 hW hS (c_X10_priceBy l D A b G (q) hT (x4 ^^^ (1 : Int32)) u12 hq) mv_X10_367 (zk1 (hs 0 (by decide))) ⟨Nat.le_of_ble_eq_true rfl, Nat.le_of_ble_eq_true rfl⟩ rfl rfl (Nat.le_of_ble_eq_true rfl) dX10_rests_80 (fun H locs hW hS => ?_)
        clear hq
        replace h := z_bd2 h
        obtain ⟨r14, u15, hq, h⟩ := h
        refine z_cvi (As := [.int x2, .int r13]) C0 hml hl.1 hW hS (c_X10_purseOf l D A b G (q) hT x2 r13 u12 hq) mv_X10_370 (zk1 (hs 0 (by decide))) ⟨Nat.le_of_ble_eq_true rfl, Nat.le_of_ble_eq_true rfl⟩ rfl rfl (Nat.le_of_ble_eq_true rfl) dX10_rests_83 (fun H locs hW hS => ?_)
        clear hq
        refine lv_aload_n hx hb dX10_rests_86 rfl (lv_at hl 2 rfl) ?_
        refine lv_iload_n hx hb dX10_rests_87 rfl (lv_at hl 4 rfl) ?_
        refine lv_iload hx hb dX10_rests_88 (lv_at hl 1 rfl) ?_
        replace h := z_bd2 h
        obtain ⟨r16, u17, hq, h⟩ := h
        refine z_cvi (As := [.int x2, .int r7]) C0 hml hl.1 hW hS (c_X10_purseOf l D A b G (q) hT x2 r7 u15 hq) mv_X10_370 (zk1 (hs 0 (by decide))) ⟨Nat.le_of_ble_eq_true rfl, Nat.le_of_ble_eq_true rfl⟩ rfl rfl (Nat.le_of_ble_eq_true rfl) dX10_rests_90 (fun H locs hW hS => ?_)
        clear hq
        refine lv_icmp_gt (tgt := 100) hx hb dX10_rests_93 (by decide) (fun hc => ?_) (fun hc => ?_)
        · replace h := z_t h hc
          clear hc
          refine lv_iconst (v := (0 : Int32)) hx hb dX10_rests_100 (by decide) ?_
          refine lv_istore (lv' := [(7, .int (0 : Int32)), (6, .int (0 : Int32)), (5, .int r7), (0, .ref (b + 0)), (1, .int x1), (2, .int x2), (3, .int x3), (4, .int x4)]) hx hb dX10_rests_101 hl (by decide) rfl (fun ls hl => ?_)
          refine lv_iload hx hb dX10_rests_103 (lv_at hl 1 rfl) ?_
          refine lv_if_eq (tgt := 120) hx hb dX10_rests_105 (by decide) (fun hc => ?_) (fun hc => ?_)
          · clear hc
            refine lv_iinc (v := x4 + (1 : Int32)) (lv' := [(4, .int (x4 + (1 : Int32))), (7, .int (0 : Int32)), (6, .int (0 : Int32)), (5, .int r7), (0, .ref (b + 0)), (1, .int x1), (2, .int x2), (3, .int x3)]) hx hb dX10_rests_120 hl (k := 7) rfl rfl (by decide) rfl (fun ls hl => ?_)
            refine lv_goto (tgt := 29) hx hb dX10_rests_123 (by decide) ?_
            exact ih _ _ _ _ _ _ _ _ h hW hS (lv_sub hl [4, 5, 6, 7, 0] rfl)
          · exact absurd hc (by decide)
        · replace h := z_f h hc
          clear hc
          refine lv_iconst (v := (1 : Int32)) hx hb dX10_rests_96 (by decide) ?_
          refine lv_goto (tgt := 101) hx hb dX10_rests_97 (by decide) ?_
          refine lv_istore (lv' := [(7, .int (1 : Int32)), (6, .int (0 : Int32)), (5, .int r7), (0, .ref (b + 0)), (1, .int x1), (2, .int x2), (3, .int x3), (4, .int x4)]) hx hb dX10_rests_101 hl (by decide) rfl (fun ls hl => ?_)
          refine lv_iload hx hb dX10_rests_103 (lv_at hl 1 rfl) ?_
          refine lv_if_eq (tgt := 120) hx hb dX10_rests_105 (by decide) (fun hc => ?_) (fun hc => ?_)
          · clear hc
            refine lv_iinc (v := x4 + (1 : Int32)) (lv' := [(4, .int (x4 + (1 : Int32))), (7, .int (1 : Int32)), (6, .int (0 : Int32)), (5, .int r7), (0, .ref (b + 0)), (1, .int x1), (2, .int x2), (3, .int x3)]) hx hb dX10_rests_120 hl (k := 7) rfl rfl (by decide) rfl (fun ls hl => ?_)
            refine lv_goto (tgt := 29) hx hb dX10_rests_123 (by decide) ?_
            exact ih _ _ _ _ _ _ _ _ h hW hS (lv_sub hl [4, 5, 6, 7, 0] rfl)
          · exact absurd hc (by decide)
      · replace h := z_f h hc
        clear hc
        refine lv_iconst (v := (1 : Int32)) hx hb dX10_rests_66 (by decide) ?_
        refine lv_goto (tgt := 71) hx hb dX10_rests_67 (by decide) ?_
        refine lv_istore (lv' := [(6, .int (1 : Int32)), (5, .int r7), (0, .ref (b + 0)), (1, .int x1), (2, .int x2), (3, .int x3), (4, .int x4)]) hx hb dX10_rests_71 hl (by decide) rfl (fun ls hl => ?_)
        refine lv_aload_n hx hb dX10_rests_73 rfl (lv_at hl 2 rfl) ?_
        refine lv_iload_n hx hb dX10_rests_74 rfl (lv_at hl 4 rfl) ?_
        refine lv_aload_n hx hb dX10_rests_75 rfl (lv_at hl 2 rfl) ?_
        refine lv_iload hx hb dX10_rests_76 (lv_at hl 6 rfl) ?_
        refine lv_iconst (v := (1 : Int32)) hx hb dX10_rests_78 (by decide) ?_
        refine lv_ixor hx hb dX10_rests_79 ?_
        obtain ⟨r18, hq⟩ : ∃ y, f_X10_priceBy (q) (x4 ^^^ (1 : Int32)) u12 = y := ⟨_, rfl⟩
        replace h := z_lz h hq
        refine z_cvi (As := [.int (x4 ^^^ (1 : Int32))]) C0 hml hl.1 hW hS (c_X10_priceBy l D A b G (q) hT (x4 ^^^ (1 : Int32)) u12 hq) mv_X10_367 (zk1 (hs 0 (by decide))) ⟨Nat.le_of_ble_eq_true rfl, Nat.le_of_ble_eq_true rfl⟩ rfl rfl (Nat.le_of_ble_eq_true rfl) dX10_rests_80 (fun H locs hW hS => ?_)
        clear hq
        replace h := z_bd2 h
        obtain ⟨r19, u20, hq, h⟩ := h
        refine z_cvi (As := [.int x2, .int r18]) C0 hml hl.1 hW hS (c_X10_purseOf l D A b G (q) hT x2 r18 u12 hq) mv_X10_370 (zk1 (hs 0 (by decide))) ⟨Nat.le_of_ble_eq_true rfl, Nat.le_of_ble_eq_true rfl⟩ rfl rfl (Nat.le_of_ble_eq_true rfl) dX10_rests_83 (fun H locs hW hS => ?_)
        clear hq
        refine lv_aload_n hx hb dX10_rests_86 rfl (lv_at hl 2 rfl) ?_
        refine lv_iload_n hx hb dX10_rests_87 rfl (lv_at hl 4 rfl) ?_
        refine lv_iload hx hb dX10_rests_88 (lv_at hl 1 rfl) ?_
        replace h := z_bd2 h
        obtain ⟨r21, u22, hq, h⟩ := h
        refine z_cvi (As := [.int x2, .int r7]) C0 hml hl.1 hW hS (c_X10_purseOf l D A b G (q) hT x2 r7 u20 hq) mv_X10_370 (zk1 (hs 0 (by decide))) ⟨Nat.le_of_ble_eq_true rfl, Nat.le_of_ble_eq_true rfl⟩ rfl rfl (Nat.le_of_ble_eq_true rfl) dX10_rests_90 (fun H locs hW hS => ?_)
        clear hq
        refine lv_icmp_gt (tgt := 100) hx hb dX10_rests_93 (by decide) (fun hc => ?_) (fun hc => ?_)
        · replace h := z_t h hc
          clear hc
          refine lv_iconst (v := (0 : Int32)) hx hb dX10_rests_100 (by decide) ?_
          refine lv_istore (lv' := [(7, .int (0 : Int32)), (6, .int (1 : Int32)), (5, .int r7), (0, .ref (b + 0)), (1, .int x1), (2, .int x2), (3, .int x3), (4, .int x4)]) hx hb dX10_rests_101 hl (by decide) rfl (fun ls hl => ?_)
          refine lv_iload hx hb dX10_rests_103 (lv_at hl 1 rfl) ?_
          refine lv_if_eq (tgt := 120) hx hb dX10_rests_105 (by decide) (fun hc => ?_) (fun hc => ?_)
          · exact absurd hc (by decide)
          · clear hc
            refine lv_iload hx hb dX10_rests_108 (lv_at hl 0 rfl) ?_
            refine lv_if_eq (tgt := 120) hx hb dX10_rests_110 (by decide) (fun hc => ?_) (fun hc => ?_)
            · clear hc
              refine lv_iinc (v := x4 + (1 : Int32)) (lv' := [(4, .int (x4 + (1 : Int32))), (7, .int (0 : Int32)), (6, .int (1 : Int32)), (5, .int r7), (0, .ref (b + 0)), (1, .int x1), (2, .int x2), (3, .int x3)]) hx hb dX10_rests_120 hl (k := 7) rfl rfl (by decide) rfl (fun ls hl => ?_)
              refine lv_goto (tgt := 29) hx hb dX10_rests_123 (by decide) ?_
              exact ih _ _ _ _ _ _ _ _ h hW hS (lv_sub hl [4, 5, 6, 7, 0] rfl)
            · exact absurd hc (by decide)
        · replace h := z_f h hc
          clear hc
          refine lv_iconst (v := (1 : Int32)) hx hb dX10_rests_96 (by decide) ?_
          refine lv_goto (tgt := 101) hx hb dX10_rests_97 (by decide) ?_
          refine lv_istore (lv' := [(7, .int (1 : Int32)), (6, .int (1 : Int32)), (5, .int r7), (0, .ref (b + 0)), (1, .int x1), (2, .int x2), (3, .int x3), (4, .int x4)]) hx hb dX10_rests_101 hl (by decide) rfl (fun ls hl => ?_)
          refine lv_iload hx hb dX10_rests_103 (lv_at hl 1 rfl) ?_
          refine lv_if_eq (tgt := 120) hx hb dX10_rests_105 (by decide) (fun hc => ?_) (fun hc => ?_)
          · exact absurd hc (by decide)
          · clear hc
            refine lv_iload hx hb dX10_rests_108 (lv_at hl 0 rfl) ?_
            refine lv_if_eq (tgt := 120) hx hb dX10_rests_110 (by decide) (fun hc => ?_) (fun hc => ?_)
            · exact absurd hc (by decide)
            · clear hc
              refine lv_iload_n hx hb dX10_rests_113 rfl (lv_at hl 6 rfl) ?_
              refine lv_iconst (v := (1 : Int32)) hx hb dX10_rests_114 (by decide) ?_
              refine lv_iload hx hb dX10_rests_115 (lv_at hl 7 rfl) ?_
              refine lv_ishl hx hb dX10_rests_117 ?_
              refine lv_ior hx hb dX10_rests_118 ?_
              refine lv_topi (fun z23 e1 => ?_)
              replace h := z_ly h e1
              clear e1
              refine lv_istore_n (lv' := [(3, .int z23), (7, .int (1 : Int32)), (6, .int (1 : Int32)), (5, .int r7), (0, .ref (b + 0)), (1, .int x1), (2, .int x2), (4, .int x4)]) hx hb dX10_rests_119 rfl hl (by decide) rfl (fun ls hl => ?_)
              refine lv_iinc (v := x4 + (1 : Int32)) (lv' := [(4, .int (x4 + (1 : Int32))), (3, .int z23), (7, .int (1 : Int32)), (6, .int (1 : Int32)), (5, .int r7), (0, .ref (b + 0)), (1, .int x1), (2, .int x2)]) hx hb dX10_rests_120 hl (k := 7) rfl rfl (by decide) rfl (fun ls hl => ?_)
              refine lv_goto (tgt := 29) hx hb dX10_rests_123 (by decide) ?_
              exact ih _ _ _ _ _ _ _ _ h hW hS (lv_sub hl [5, 6, 7, 1, 0] rfl)
set_option maxRecDepth 100000 in
set_option maxHeartbeats 4000000 in
theorem t_X10_rests (l : Launch) (D : zD) (A : Nat → Prop) (b : Nat) (G : zG) (q : zq) (hT : zTop G q) (hst : l.stackTraces = false) (a1 : Int32) (a2 : Int32) (u : zU) {E : String} {q' : zq} {u' : zU} (h : f_X10_rests q a1 a2 u = some (.inl E, q', u')) : z_TX l D A b G yX10_rests cX10_rests 8 (some .int) 7 125 [.ref (b + 0), .int a1, .int a2] q u E q' u' := by
  refine z_enterX (by decide) (Nat.le_of_ble_eq_true rfl) ?_
  intro p e s m below meth c ls C0 hex hml hlk hW hS hl
  have hl : lv_has ls 8 [(0, .ref (b + 0)), (1, .int a1), (2, .int a2)] := hl
  have hx := C0.1
  have hb := C0.2.1
  have hs := hT.1
  rw [f_X10_rests_e] at h
  refine lv_iload_n hx hb dX10_rests_0 rfl (lv_at hl 1 rfl) ?_
  replace h := z_bxd h
  rcases h with ⟨E1, hq, hE⟩ | ⟨w1, q3, u2, hq, h⟩
  · cases hE
    exact z_csX (As := [.int a1]) C0 hml hl.1 hW hS hex hlk (t_X10_needParty l D A b G (q) hT hst a1 u hq) ms_X10_194 ⟨Nat.le_of_ble_eq_true rfl, Nat.le_of_ble_eq_true rfl⟩ ⟨Nat.le_of_ble_eq_true rfl, Nat.le_of_ble_eq_true rfl⟩ rfl rfl (Nat.le_of_ble_eq_true rfl) dX10_rests_1
  · refine z_csTv (As := [.int a1]) C0 hml hl.1 hW hS (c_X10_needParty l D A b G (q) hT a1 u hq) ms_X10_194 ⟨Nat.le_of_ble_eq_true rfl, Nat.le_of_ble_eq_true rfl⟩ rfl rfl (Nat.le_of_ble_eq_true rfl) dX10_rests_1 (fun H locs hW hS hT => ?_)
    clear hq
    have hs := hT.1
    refine lv_iload_n hx hb dX10_rests_4 rfl (lv_at hl 2 rfl) ?_
    replace h := z_bxd h
    rcases h with ⟨E1, hq, hE⟩ | ⟨w4, q6, u5, hq, h⟩
    · cases hE
      exact z_csX (As := [.int a2]) C0 hml hl.1 hW hS hex hlk (t_X10_needParty l D A b G (q3) hT hst a2 u2 hq) ms_X10_194 ⟨Nat.le_of_ble_eq_true rfl, Nat.le_of_ble_eq_true rfl⟩ ⟨Nat.le_of_ble_eq_true rfl, Nat.le_of_ble_eq_true rfl⟩ rfl rfl (Nat.le_of_ble_eq_true rfl) dX10_rests_5
    · refine z_csTv (As := [.int a2]) C0 hml hl.1 hW hS (c_X10_needParty l D A b G (q3) hT a2 u2 hq) ms_X10_194 ⟨Nat.le_of_ble_eq_true rfl, Nat.le_of_ble_eq_true rfl⟩ rfl rfl (Nat.le_of_ble_eq_true rfl) dX10_rests_5 (fun H locs hW hS hT => ?_)
      clear hq
      have hs := hT.1
      refine lv_iload_n hx hb dX10_rests_8 rfl (lv_at hl 1 rfl) ?_
      refine lv_iload_n hx hb dX10_rests_9 rfl (lv_at hl 2 rfl) ?_
      refine lv_icmp_ne (tgt := 24) hx hb dX10_rests_10 (by decide) (fun hc => ?_) (fun hc => ?_)
      · replace h := z_f h hc
        clear hc
        refine lv_iconst (v := (0 : Int32)) hx hb dX10_rests_24 (by decide) ?_
        refine lv_istore_n (lv' := [(3, .int (0 : Int32)), (0, .ref (b + 0)), (1, .int a1), (2, .int a2)]) hx hb dX10_rests_25 rfl hl (by decide) rfl (fun ls hl => ?_)
        refine lv_iconst (v := (0 : Int32)) hx hb dX10_rests_26 (by decide) ?_
        refine lv_istore (lv' := [(4, .int (0 : Int32)), (3, .int (0 : Int32)), (0, .ref (b + 0)), (1, .int a1), (2, .int a2)]) hx hb dX10_rests_27 hl (by decide) rfl (fun ls hl => ?_)
        exact lx_X10_rests_29 C0 hex hml hlk hT hst 5000 _ _ _ _ _ _ _ _ h hW hS (lv_sub hl [2, 3, 4, 1, 0] rfl)
      · replace h := z_t h hc
        clear hc
        cases h
        exact z_thrW (k := 11) (tx := "both are one") C0 hst hml hl.1 hW hS hT hex hlk tw_131_135 (List.mem_of_getElem? (i := 11) rfl) ⟨Nat.le_of_ble_eq_true rfl, Nat.le_of_ble_eq_true rfl⟩ ⟨Nat.le_of_ble_eq_true rfl, Nat.le_of_ble_eq_true rfl⟩ dX10_rests_13 dX10_rests_16 dX10_rests_17 dX10_rests_20 dX10_rests_23
def f_X10_needMoves_20 (q : zq) : Nat → Int32 → Int32 → zU → Option ((String ⊕ Unit) × zq × zU)
  | 0, _, _, _ => none
  | n + 1, x1, x2, u =>
    if x1 = 0 then ((z_b01 x1).bind (fun t1 => z_bx (f_X10_needTape (q) t1 u) (fun w2 q4 u3 => some (.inr (), q4, u3)))) else (if (u 1 1) ≤ x2 then ((z_b01 x1).bind (fun t5 => z_bx (f_X10_needTape (q) t5 u) (fun w6 q8 u7 => some (.inr (), q8, u7)))) else (if z_in x2 400 = true then (z_let (u 2 (x2).toNatClampNeg) (fun z9 => if z9 < (1 : Int32) then (f_X10_needMoves_20 q n (0 : Int32) (x2 + (1 : Int32)) u) else (if z_in x2 400 = true then (z_let (u 2 (x2).toNatClampNeg) (fun z10 => if (30 : Int32) < z10 then (f_X10_needMoves_20 q n (0 : Int32) (x2 + (1 : Int32)) u) else (f_X10_needMoves_20 q n (1 : Int32) (x2 + (1 : Int32)) u))) else none))) else none))
theorem f_X10_needMoves_20_s (q : zq) (n : Nat) (x1 : Int32) (x2 : Int32) (u : zU) : f_X10_needMoves_20 q (n + 1) x1 x2 u = if x1 = 0 then ((z_b01 x1).bind (fun t1 => z_bx (f_X10_needTape (q) t1 u) (fun w2 q4 u3 => some (.inr (), q4, u3)))) else (if (u 1 1) ≤ x2 then ((z_b01 x1).bind (fun t5 => z_bx (f_X10_needTape (q) t5 u) (fun w6 q8 u7 => some (.inr (), q8, u7)))) else (if z_in x2 400 = true then (z_let (u 2 (x2).toNatClampNeg) (fun z9 => if z9 < (1 : Int32) then (f_X10_needMoves_20 q n (0 : Int32) (x2 + (1 : Int32)) u) else (if z_in x2 400 = true then (z_let (u 2 (x2).toNatClampNeg) (fun z10 => if (30 : Int32) < z10 then (f_X10_needMoves_20 q n (0 : Int32) (x2 + (1 : Int32)) u) else (f_X10_needMoves_20 q n (1 : Int32) (x2 + (1 : Int32)) u))) else none))) else none)) := rfl
def f_X10_needMoves (q : zq)  (u : zU) : Option ((String ⊕ Unit) × zq × zU) :=
  if (40 : Int32) < (u 1 1) then (f_X10_needMoves_20 q 5000 (0 : Int32) (0 : Int32) u) else (f_X10_needMoves_20 q 5000 (1 : Int32) (0 : Int32) u)
set_option maxRecDepth 100000 in
set_option maxHeartbeats 4000000 in
theorem l_X10_needMoves_20 {l : Launch} {D : zD} {A : Nat → Prop} {b : Nat} {p : Program} {e : Env} {s : State} {m : MethodId} {args : Array Value} {below : List Frame} {meth : Method} {c : Code} {G : zG} {q : zq} {q' : zq} {u' : zU} (C0 : z_C p c cX10_needMoves s m args yX10_needMoves.cls D A) (hr : meth.sig.returnType = none) (hml : c.maxLocals = 3) (hlk : meth.locks = false) (hT : zTop G q) : ∀ (n : Nat) (x1 : Int32) (x2 : Int32) (u : zU) (H : Heap) (locs : List Loc) (ls : Array Slot), f_X10_needMoves_20 q n x1 x2 u = some (.inr (), q', u') → z_W D A b (zg G q) u H → va_S A s.heap H locs → lv_has ls 3 [(0, .ref (b + 0)), (1, .int x1), (2, .int x2)] → W p l e { frames := 7, cells := 0, slots := 0, locals := 111 } s m args below meth c H locs 0 0 (z_EndT D A b G below args s none q' u') (F0 m 20 ls []) := by
  have hx := C0.1
  have hb := C0.2.1
  have hs := hT.1
  intro n
  induction n with
  | zero => intro x1 x2 u H locs ls h hW hS hl; cases h
  | succ n ih =>
    intro x1 x2 u H locs ls h hW hS hl
    rw [f_X10_needMoves_20_s] at h
    refine lv_iload_n hx hb dX10_needMoves_20 rfl (lv_at hl 1 rfl) ?_
    refine lv_if_eq (tgt := 74) hx hb dX10_needMoves_21 (by decide) (fun hc => ?_) (fun hc => ?_)
    · replace h := z_t h hc
      clear hc
      refine lv_aload_n hx hb dX10_needMoves_74 rfl (lv_at hl 0 rfl) ?_
      refine lv_iload_n hx hb dX10_needMoves_75 rfl (lv_at hl 1 rfl) ?_
      replace h := z_bd h
      obtain ⟨t1, hq, h⟩ := h
      refine z_as (z_b01_eq hq) ?_
      clear hq
      replace h := z_bxd h
      rcases h with ⟨E1, hq, hE⟩ | ⟨w2, q4, u3, hq, h⟩
      · cases hE
      · refine z_cvTv (As := [.int (bI t1)]) C0 hml hl.1 hW hS (c_X10_needTape l D A b G (q) hT t1 u hq) mv_X10_405 (zk1 (hs 0 (by decide))) ⟨Nat.le_of_ble_eq_true rfl, Nat.le_of_ble_eq_true rfl⟩ rfl rfl (Nat.le_of_ble_eq_true rfl) dX10_needMoves_76 (fun H locs hW hS hT => ?_)
        clear hq
        have hs := hT.1
        cases h
        exact z_vretT C0 hr hlk hW hS hT dX10_needMoves_79
    · replace h := z_f h hc
      clear hc
      refine lv_iload_n hx hb dX10_needMoves_24 rfl (lv_at hl 2 rfl) ?_
      refine lv_aload_n hx hb dX10_needMoves_25 rfl (lv_at hl 0 rfl) ?_
      refine z_getr (o := 1) C0 hW fl_X10_10 (zk1 (hs 0 (by decide))) rfl (zk3 (hs 0 (by decide)) 0) dX10_needMoves_26 ?_
      refine z_geti C0 hW fl_X10_85 (zk1 (hs 1 (by decide))) rfl dX10_needMoves_29 ?_
      refine lv_icmp_ge (tgt := 74) hx hb dX10_needMoves_32 (by decide) (fun hc => ?_) (fun hc => ?_)
      · replace h := z_t h hc
        clear hc
        refine lv_aload_n hx hb dX10_needMoves_74 rfl (lv_at hl 0 rfl) ?_
        refine lv_iload_n hx hb dX10_needMoves_75 rfl (lv_at hl 1 rfl) ?_
        replace h := z_bd h
        obtain ⟨t5, hq, h⟩ := h
        refine z_as (z_b01_eq hq) ?_
        clear hq
        replace h := z_bxd h
        rcases h with ⟨E1, hq, hE⟩ | ⟨w6, q8, u7, hq, h⟩
        · cases hE
        · refine z_cvTv (As := [.int (bI t5)]) C0 hml hl.1 hW hS (c_X10_needTape l D A b G (q) hT t5 u hq) mv_X10_405 (zk1 (hs 0 (by decide))) ⟨Nat.le_of_ble_eq_true rfl, Nat.le_of_ble_eq_true rfl⟩ rfl rfl (Nat.le_of_ble_eq_true rfl) dX10_needMoves_76 (fun H locs hW hS hT => ?_)
          clear hq
          have hs := hT.1
          cases h
          exact z_vretT C0 hr hlk hW hS hT dX10_needMoves_79
      · replace h := z_f h hc
        clear hc
        refine lv_aload_n hx hb dX10_needMoves_35 rfl (lv_at hl 0 rfl) ?_
        refine z_getr (o := 1) C0 hW fl_X10_10 (zk1 (hs 0 (by decide))) rfl (zk3 (hs 0 (by decide)) 0) dX10_needMoves_36 ?_
        refine z_getr (o := 2) C0 hW fl_X10_402 (zk1 (hs 1 (by decide))) rfl (zk3 (hs 1 (by decide)) 0) dX10_needMoves_39 ?_
        refine lv_iload_n hx hb dX10_needMoves_42 rfl (lv_at hl 2 rfl) ?_
        replace h := z_if h
        obtain ⟨hin, h⟩ := h
        refine z_iald (n := 400) C0 hW (zk1 (hs 2 (by decide))) (zk2 (hs 2 (by decide))) hin rfl dX10_needMoves_43 ?_
        clear hin
        refine lv_topi (fun z9 e1 => ?_)
        replace h := z_ly h e1
        clear e1
        refine lv_iconst (v := (1 : Int32)) hx hb dX10_needMoves_44 (by decide) ?_
        refine lv_icmp_lt (tgt := 66) hx hb dX10_needMoves_45 (by decide) (fun hc => ?_) (fun hc => ?_)
        · replace h := z_t h hc
          clear hc
          refine lv_iconst (v := (0 : Int32)) hx hb dX10_needMoves_66 (by decide) ?_
          refine lv_istore_n (lv' := [(1, .int (0 : Int32)), (0, .ref (b + 0)), (2, .int x2)]) hx hb dX10_needMoves_67 rfl hl (by decide) rfl (fun ls hl => ?_)
          refine lv_iinc (v := x2 + (1 : Int32)) (lv' := [(2, .int (x2 + (1 : Int32))), (1, .int (0 : Int32)), (0, .ref (b + 0))]) hx hb dX10_needMoves_68 hl (k := 2) rfl rfl (by decide) rfl (fun ls hl => ?_)
          refine lv_goto (tgt := 20) hx hb dX10_needMoves_71 (by decide) ?_
          exact ih _ _ _ _ _ _ h hW hS (lv_sub hl [2, 1, 0] rfl)
        · replace h := z_f h hc
          clear hc
          refine lv_aload_n hx hb dX10_needMoves_48 rfl (lv_at hl 0 rfl) ?_
          refine z_getr (o := 1) C0 hW fl_X10_10 (zk1 (hs 0 (by decide))) rfl (zk3 (hs 0 (by decide)) 0) dX10_needMoves_49 ?_
          refine z_getr (o := 2) C0 hW fl_X10_402 (zk1 (hs 1 (by decide))) rfl (zk3 (hs 1 (by decide)) 0) dX10_needMoves_52 ?_
          refine lv_iload_n hx hb dX10_needMoves_55 rfl (lv_at hl 2 rfl) ?_
          replace h := z_if h
          obtain ⟨hin, h⟩ := h
          refine z_iald (n := 400) C0 hW (zk1 (hs 2 (by decide))) (zk2 (hs 2 (by decide))) hin rfl dX10_needMoves_56 ?_
          clear hin
          refine lv_topi (fun z10 e1 => ?_)
          replace h := z_ly h e1
          clear e1
          refine lv_bipush (v := (30 : Int32)) hx hb dX10_needMoves_57 (by decide) ?_
          refine lv_icmp_gt (tgt := 66) hx hb dX10_needMoves_59 (by decide) (fun hc => ?_) (fun hc => ?_)
          · replace h := z_t h hc
            clear hc
            refine lv_iconst (v := (0 : Int32)) hx hb dX10_needMoves_66 (by decide) ?_
            refine lv_istore_n (lv' := [(1, .int (0 : Int32)), (0, .ref (b + 0)), (2, .int x2)]) hx hb dX10_needMoves_67 rfl hl (by decide) rfl (fun ls hl => ?_)
            refine lv_iinc (v := x2 + (1 : Int32)) (lv' := [(2, .int (x2 + (1 : Int32))), (1, .int (0 : Int32)), (0, .ref (b + 0))]) hx hb dX10_needMoves_68 hl (k := 2) rfl rfl (by decide) rfl (fun ls hl => ?_)
            refine lv_goto (tgt := 20) hx hb dX10_needMoves_71 (by decide) ?_
            exact ih _ _ _ _ _ _ h hW hS (lv_sub hl [2, 1, 0] rfl)
          · replace h := z_f h hc
            clear hc
            refine lv_iconst (v := (1 : Int32)) hx hb dX10_needMoves_62 (by decide) ?_
            refine lv_goto (tgt := 67) hx hb dX10_needMoves_63 (by decide) ?_
            refine lv_istore_n (lv' := [(1, .int (1 : Int32)), (0, .ref (b + 0)), (2, .int x2)]) hx hb dX10_needMoves_67 rfl hl (by decide) rfl (fun ls hl => ?_)
            refine lv_iinc (v := x2 + (1 : Int32)) (lv' := [(2, .int (x2 + (1 : Int32))), (1, .int (1 : Int32)), (0, .ref (b + 0))]) hx hb dX10_needMoves_68 hl (k := 2) rfl rfl (by decide) rfl (fun ls hl => ?_)
            refine lv_goto (tgt := 20) hx hb dX10_needMoves_71 (by decide) ?_
            exact ih _ _ _ _ _ _ h hW hS (lv_sub hl [2, 1, 0] rfl)
theorem f_X10_needMoves_e (q : zq)  (u : zU) : f_X10_needMoves q u = if (40 : Int32) < (u 1 1) then (f_X10_needMoves_20 q 5000 (0 : Int32) (0 : Int32) u) else (f_X10_needMoves_20 q 5000 (1 : Int32) (0 : Int32) u) := rfl
set_option maxRecDepth 100000 in
set_option maxHeartbeats 4000000 in
theorem c_X10_needMoves (l : Launch) (D : zD) (A : Nat → Prop) (b : Nat) (G : zG) (q : zq) (hT : zTop G q)  (u : zU) {q' : zq} {u' : zU} (h : f_X10_needMoves q u = some (.inr (), q', u')) : z_MT l D A b G yX10_needMoves cX10_needMoves 3 none 7 111 [.ref (b + 0)] q u none q' u' := by
  refine z_enterT (by decide) (Nat.le_of_ble_eq_true rfl) ?_
  intro p e s m below meth c ls C0 hr hml hlk hW hS hl
  have hl : lv_has ls 3 [(0, .ref (b + 0))] := hl
  have hx := C0.1
  have hb := C0.2.1
  have hs := hT.1
  rw [f_X10_needMoves_e] at h
  refine lv_aload_n hx hb dX10_needMoves_0 rfl (lv_at hl 0 rfl) ?_
  refine z_getr (o := 1) C0 hW fl_X10_10 (zk1 (hs 0 (by decide))) rfl (zk3 (hs 0 (by decide)) 0) dX10_needMoves_1 ?_
  refine z_geti C0 hW fl_X10_85 (zk1 (hs 1 (by decide))) rfl dX10_needMoves_4 ?_
  refine lv_bipush (v := (40 : Int32)) hx hb dX10_needMoves_7 (by decide) ?_
  refine lv_icmp_gt (tgt := 16) hx hb dX10_needMoves_9 (by decide) (fun hc => ?_) (fun hc => ?_)
  · replace h := z_t h hc
    clear hc
    refine lv_iconst (v := (0 : Int32)) hx hb dX10_needMoves_16 (by decide) ?_
    refine lv_istore_n (lv' := [(1, .int (0 : Int32)), (0, .ref (b + 0))]) hx hb dX10_needMoves_17 rfl hl (by decide) rfl (fun ls hl => ?_)
    refine lv_iconst (v := (0 : Int32)) hx hb dX10_needMoves_18 (by decide) ?_
    refine lv_istore_n (lv' := [(2, .int (0 : Int32)), (1, .int (0 : Int32)), (0, .ref (b + 0))]) hx hb dX10_needMoves_19 rfl hl (by decide) rfl (fun ls hl => ?_)
    exact l_X10_needMoves_20 C0 hr hml hlk hT 5000 _ _ _ _ _ _ h hW hS (lv_sub hl [2, 1, 0] rfl)
  · replace h := z_f h hc
    clear hc
    refine lv_iconst (v := (1 : Int32)) hx hb dX10_needMoves_12 (by decide) ?_
    refine lv_goto (tgt := 17) hx hb dX10_needMoves_13 (by decide) ?_
    refine lv_istore_n (lv' := [(1, .int (1 : Int32)), (0, .ref (b + 0))]) hx hb dX10_needMoves_17 rfl hl (by decide) rfl (fun ls hl => ?_)
    refine lv_iconst (v := (0 : Int32)) hx hb dX10_needMoves_18 (by decide) ?_
    refine lv_istore_n (lv' := [(2, .int (0 : Int32)), (1, .int (1 : Int32)), (0, .ref (b + 0))]) hx hb dX10_needMoves_19 rfl hl (by decide) rfl (fun ls hl => ?_)
    exact l_X10_needMoves_20 C0 hr hml hlk hT 5000 _ _ _ _ _ _ h hW hS (lv_sub hl [2, 1, 0] rfl)
set_option maxRecDepth 100000 in
set_option maxHeartbeats 4000000 in
theorem lx_X10_needMoves_20 {l : Launch} {D : zD} {A : Nat → Prop} {b : Nat} {p : Program} {e : Env} {s : State} {m : MethodId} {args : Array Value} {below : List Frame} {meth : Method} {c : Code} {G : zG} {q : zq} {E : String} {q' : zq} {u' : zU} (C0 : z_C p c cX10_needMoves s m args yX10_needMoves.cls D A) (hex : ∀ x ∈ c.exceptionTable.toList, False) (hml : c.maxLocals = 3) (hlk : meth.locks = false) (hT : zTop G q) (hst : l.stackTraces = false) : ∀ (n : Nat) (x1 : Int32) (x2 : Int32) (u : zU) (H : Heap) (locs : List Loc) (ls : Array Slot), f_X10_needMoves_20 q n x1 x2 u = some (.inl E, q', u') → z_W D A b (zg G q) u H → va_S A s.heap H locs → lv_has ls 3 [(0, .ref (b + 0)), (1, .int x1), (2, .int x2)] → W p l e { frames := 7, cells := 1, slots := 6, locals := 111 } s m args below meth c H locs 0 0 (z_EndX D A b G below args s E q' u') (F0 m 20 ls []) := by
  have hx := C0.1
  have hb := C0.2.1
  have hs := hT.1
  intro n
  induction n with
  | zero => intro x1 x2 u H locs ls h hW hS hl; cases h
  | succ n ih =>
    intro x1 x2 u H locs ls h hW hS hl
    rw [f_X10_needMoves_20_s] at h
    refine lv_iload_n hx hb dX10_needMoves_20 rfl (lv_at hl 1 rfl) ?_
    refine lv_if_eq (tgt := 74) hx hb dX10_needMoves_21 (by decide) (fun hc => ?_) (fun hc => ?_)
    · replace h := z_t h hc
      clear hc
      refine lv_aload_n hx hb dX10_needMoves_74 rfl (lv_at hl 0 rfl) ?_
      refine lv_iload_n hx hb dX10_needMoves_75 rfl (lv_at hl 1 rfl) ?_
      replace h := z_bd h
      obtain ⟨t1, hq, h⟩ := h
      refine z_as (z_b01_eq hq) ?_
      clear hq
      replace h := z_bxd h
      rcases h with ⟨E1, hq, hE⟩ | ⟨w2, q4, u3, hq, h⟩
      · cases hE
        exact z_cvX (As := [.int (bI t1)]) C0 hml hl.1 hW hS hex hlk (t_X10_needTape l D A b G (q) hT hst t1 u hq) mv_X10_405 (zk1 (hs 0 (by decide))) ⟨Nat.le_of_ble_eq_true rfl, Nat.le_of_ble_eq_true rfl⟩ ⟨Nat.le_of_ble_eq_true rfl, Nat.le_of_ble_eq_true rfl⟩ rfl rfl (Nat.le_of_ble_eq_true rfl) dX10_needMoves_76
      · refine z_cvTv (As := [.int (bI t1)]) C0 hml hl.1 hW hS (c_X10_needTape l D A b G (q) hT t1 u hq) mv_X10_405 (zk1 (hs 0 (by decide))) ⟨Nat.le_of_ble_eq_true rfl, Nat.le_of_ble_eq_true rfl⟩ rfl rfl (Nat.le_of_ble_eq_true rfl) dX10_needMoves_76 (fun H locs hW hS hT => ?_)
        clear hq
        have hs := hT.1
        cases h
    · replace h := z_f h hc
      clear hc
      refine lv_iload_n hx hb dX10_needMoves_24 rfl (lv_at hl 2 rfl) ?_
      refine lv_aload_n hx hb dX10_needMoves_25 rfl (lv_at hl 0 rfl) ?_
      refine z_getr (o := 1) C0 hW fl_X10_10 (zk1 (hs 0 (by decide))) rfl (zk3 (hs 0 (by decide)) 0) dX10_needMoves_26 ?_
      refine z_geti C0 hW fl_X10_85 (zk1 (hs 1 (by decide))) rfl dX10_needMoves_29 ?_
      refine lv_icmp_ge (tgt := 74) hx hb dX10_needMoves_32 (by decide) (fun hc => ?_) (fun hc => ?_)
      · replace h := z_t h hc
        clear hc
        refine lv_aload_n hx hb dX10_needMoves_74 rfl (lv_at hl 0 rfl) ?_
        refine lv_iload_n hx hb dX10_needMoves_75 rfl (lv_at hl 1 rfl) ?_
        replace h := z_bd h
        obtain ⟨t5, hq, h⟩ := h
        refine z_as (z_b01_eq hq) ?_
        clear hq
        replace h := z_bxd h
        rcases h with ⟨E1, hq, hE⟩ | ⟨w6, q8, u7, hq, h⟩
        · cases hE
          exact z_cvX (As := [.int (bI t5)]) C0 hml hl.1 hW hS hex hlk (t_X10_needTape l D A b G (q) hT hst t5 u hq) mv_X10_405 (zk1 (hs 0 (by decide))) ⟨Nat.le_of_ble_eq_true rfl, Nat.le_of_ble_eq_true rfl⟩ ⟨Nat.le_of_ble_eq_true rfl, Nat.le_of_ble_eq_true rfl⟩ rfl rfl (Nat.le_of_ble_eq_true rfl) dX10_needMoves_76
        · refine z_cvTv (As := [.int (bI t5)]) C0 hml hl.1 hW hS (c_X10_needTape l D A b G (q) hT t5 u hq) mv_X10_405 (zk1 (hs 0 (by decide))) ⟨Nat.le_of_ble_eq_true rfl, Nat.le_of_ble_eq_true rfl⟩ rfl rfl (Nat.le_of_ble_eq_true rfl) dX10_needMoves_76 (fun H locs hW hS hT => ?_)
          clear hq
          have hs := hT.1
          cases h
      · replace h := z_f h hc
        clear hc
        refine lv_aload_n hx hb dX10_needMoves_35 rfl (lv_at hl 0 rfl) ?_
        refine z_getr (o := 1) C0 hW fl_X10_10 (zk1 (hs 0 (by decide))) rfl (zk3 (hs 0 (by decide)) 0) dX10_needMoves_36 ?_
        refine z_getr (o := 2) C0 hW fl_X10_402 (zk1 (hs 1 (by decide))) rfl (zk3 (hs 1 (by decide)) 0) dX10_needMoves_39 ?_
        refine lv_iload_n hx hb dX10_needMoves_42 rfl (lv_at hl 2 rfl) ?_
        replace h := z_if h
        obtain ⟨hin, h⟩ := h
        refine z_iald (n := 400) C0 hW (zk1 (hs 2 (by decide))) (zk2 (hs 2 (by decide))) hin rfl dX10_needMoves_43 ?_
        clear hin
        refine lv_topi (fun z9 e1 => ?_)
        replace h := z_ly h e1
        clear e1
        refine lv_iconst (v := (1 : Int32)) hx hb dX10_needMoves_44 (by decide) ?_
        refine lv_icmp_lt (tgt := 66) hx hb dX10_needMoves_45 (by decide) (fun hc => ?_) (fun hc => ?_)
        · replace h := z_t h hc
          clear hc
          refine lv_iconst (v := (0 : Int32)) hx hb dX10_needMoves_66 (by decide) ?_
          refine lv_istore_n (lv' := [(1, .int (0 : Int32)), (0, .ref (b + 0)), (2, .int x2)]) hx hb dX10_needMoves_67 rfl hl (by decide) rfl (fun ls hl => ?_)
          refine lv_iinc (v := x2 + (1 : Int32)) (lv' := [(2, .int (x2 + (1 : Int32))), (1, .int (0 : Int32)), (0, .ref (b + 0))]) hx hb dX10_needMoves_68 hl (k := 2) rfl rfl (by decide) rfl (fun ls hl => ?_)
          refine lv_goto (tgt := 20) hx hb dX10_needMoves_71 (by decide) ?_
          exact ih _ _ _ _ _ _ h hW hS (lv_sub hl [2, 1, 0] rfl)
        · replace h := z_f h hc
          clear hc
          refine lv_aload_n hx hb dX10_needMoves_48 rfl (lv_at hl 0 rfl) ?_
          refine z_getr (o := 1) C0 hW fl_X10_10 (zk1 (hs 0 (by decide))) rfl (zk3 (hs 0 (by decide)) 0) dX10_needMoves_49 ?_
          refine z_getr (o := 2) C0 hW fl_X10_402 (zk1 (hs 1 (by decide))) rfl (zk3 (hs 1 (by decide)) 0) dX10_needMoves_52 ?_
          refine lv_iload_n hx hb dX10_needMoves_55 rfl (lv_at hl 2 rfl) ?_
          replace h := z_if h
          obtain ⟨hin, h⟩ := h
          refine z_iald (n := 400) C0 hW (zk1 (hs 2 (by decide))) (zk2 (hs 2 (by decide))) hin rfl dX10_needMoves_56 ?_
          clear hin
          refine lv_topi (fun z10 e1 => ?_)
          replace h := z_ly h e1
          clear e1
          refine lv_bipush (v := (30 : Int32)) hx hb dX10_needMoves_57 (by decide) ?_
          refine lv_icmp_gt (tgt := 66) hx hb dX10_needMoves_59 (by decide) (fun hc => ?_) (fun hc => ?_)
          · replace h := z_t h hc
            clear hc
            refine lv_iconst (v := (0 : Int32)) hx hb dX10_needMoves_66 (by decide) ?_
            refine lv_istore_n (lv' := [(1, .int (0 : Int32)), (0, .ref (b + 0)), (2, .int x2)]) hx hb dX10_needMoves_67 rfl hl (by decide) rfl (fun ls hl => ?_)
            refine lv_iinc (v := x2 + (1 : Int32)) (lv' := [(2, .int (x2 + (1 : Int32))), (1, .int (0 : Int32)), (0, .ref (b + 0))]) hx hb dX10_needMoves_68 hl (k := 2) rfl rfl (by decide) rfl (fun ls hl => ?_)
            refine lv_goto (tgt := 20) hx hb dX10_needMoves_71 (by decide) ?_
            exact ih _ _ _ _ _ _ h hW hS (lv_sub hl [2, 1, 0] rfl)
          · replace h := z_f h hc
            clear hc
            refine lv_iconst (v := (1 : Int32)) hx hb dX10_needMoves_62 (by decide) ?_
            refine lv_goto (tgt := 67) hx hb dX10_needMoves_63 (by decide) ?_
            refine lv_istore_n (lv' := [(1, .int (1 : Int32)), (0, .ref (b + 0)), (2, .int x2)]) hx hb dX10_needMoves_67 rfl hl (by decide) rfl (fun ls hl => ?_)
            refine lv_iinc (v := x2 + (1 : Int32)) (lv' := [(2, .int (x2 + (1 : Int32))), (1, .int (1 : Int32)), (0, .ref (b + 0))]) hx hb dX10_needMoves_68 hl (k := 2) rfl rfl (by decide) rfl (fun ls hl => ?_)
            refine lv_goto (tgt := 20) hx hb dX10_needMoves_71 (by decide) ?_
            exact ih _ _ _ _ _ _ h hW hS (lv_sub hl [2, 1, 0] rfl)
set_option maxRecDepth 100000 in
set_option maxHeartbeats 4000000 in
theorem t_X10_needMoves (l : Launch) (D : zD) (A : Nat → Prop) (b : Nat) (G : zG) (q : zq) (hT : zTop G q) (hst : l.stackTraces = false)  (u : zU) {E : String} {q' : zq} {u' : zU} (h : f_X10_needMoves q u = some (.inl E, q', u')) : z_TX l D A b G yX10_needMoves cX10_needMoves 3 none 7 111 [.ref (b + 0)] q u E q' u' := by
  refine z_enterX (by decide) (Nat.le_of_ble_eq_true rfl) ?_
  intro p e s m below meth c ls C0 hex hml hlk hW hS hl
  have hl : lv_has ls 3 [(0, .ref (b + 0))] := hl
  have hx := C0.1
  have hb := C0.2.1
  have hs := hT.1
  rw [f_X10_needMoves_e] at h
  refine lv_aload_n hx hb dX10_needMoves_0 rfl (lv_at hl 0 rfl) ?_
  refine z_getr (o := 1) C0 hW fl_X10_10 (zk1 (hs 0 (by decide))) rfl (zk3 (hs 0 (by decide)) 0) dX10_needMoves_1 ?_
  refine z_geti C0 hW fl_X10_85 (zk1 (hs 1 (by decide))) rfl dX10_needMoves_4 ?_
  refine lv_bipush (v := (40 : Int32)) hx hb dX10_needMoves_7 (by decide) ?_
  refine lv_icmp_gt (tgt := 16) hx hb dX10_needMoves_9 (by decide) (fun hc => ?_) (fun hc => ?_)
  · replace h := z_t h hc
    clear hc
    refine lv_iconst (v := (0 : Int32)) hx hb dX10_needMoves_16 (by decide) ?_
    refine lv_istore_n (lv' := [(1, .int (0 : Int32)), (0, .ref (b + 0))]) hx hb dX10_needMoves_17 rfl hl (by decide) rfl (fun ls hl => ?_)
    refine lv_iconst (v := (0 : Int32)) hx hb dX10_needMoves_18 (by decide) ?_
    refine lv_istore_n (lv' := [(2, .int (0 : Int32)), (1, .int (0 : Int32)), (0, .ref (b + 0))]) hx hb dX10_needMoves_19 rfl hl (by decide) rfl (fun ls hl => ?_)
    exact lx_X10_needMoves_20 C0 hex hml hlk hT hst 5000 _ _ _ _ _ _ h hW hS (lv_sub hl [2, 1, 0] rfl)
  · replace h := z_f h hc
    clear hc
    refine lv_iconst (v := (1 : Int32)) hx hb dX10_needMoves_12 (by decide) ?_
    refine lv_goto (tgt := 17) hx hb dX10_needMoves_13 (by decide) ?_
    refine lv_istore_n (lv' := [(1, .int (1 : Int32)), (0, .ref (b + 0))]) hx hb dX10_needMoves_17 rfl hl (by decide) rfl (fun ls hl => ?_)
    refine lv_iconst (v := (0 : Int32)) hx hb dX10_needMoves_18 (by decide) ?_
    refine lv_istore_n (lv' := [(2, .int (0 : Int32)), (1, .int (1 : Int32)), (0, .ref (b + 0))]) hx hb dX10_needMoves_19 rfl hl (by decide) rfl (fun ls hl => ?_)
    exact lx_X10_needMoves_20 C0 hex hml hlk hT hst 5000 _ _ _ _ _ _ h hW hS (lv_sub hl [2, 1, 0] rfl)
def f_X10_needFires_32 (q : zq) : Nat → Int32 → Int32 → zU → Option ((String ⊕ Unit) × zq × zU)
  | 0, _, _, _ => none
  | n + 1, x1, x2, u =>
    if x1 = 0 then ((z_b01 x1).bind (fun t1 => z_bx (f_X10_needTape (q) t1 u) (fun w2 q4 u3 => some (.inr (), q4, u3)))) else (if (u 1 1) ≤ x2 then ((z_b01 x1).bind (fun t5 => z_bx (f_X10_needTape (q) t5 u) (fun w6 q8 u7 => some (.inr (), q8, u7)))) else (if (x2 &&& (1 : Int32)) = 0 then (if z_in x2 400 = true then (z_let (u 2 (x2).toNatClampNeg) (fun z10 => if (4 : Int32) < z10 then (f_X10_needFires_32 q n (0 : Int32) (x2 + (1 : Int32)) u) else (f_X10_needFires_32 q n (1 : Int32) (x2 + (1 : Int32)) u))) else none) else (if z_in x2 400 = true then (z_let (u 2 (x2).toNatClampNeg) (fun z9 => if (1 : Int32) < z9 then (f_X10_needFires_32 q n (0 : Int32) (x2 + (1 : Int32)) u) else (f_X10_needFires_32 q n (1 : Int32) (x2 + (1 : Int32)) u))) else none)))
theorem f_X10_needFires_32_s (q : zq) (n : Nat) (x1 : Int32) (x2 : Int32) (u : zU) : f_X10_needFires_32 q (n + 1) x1 x2 u = if x1 = 0 then ((z_b01 x1).bind (fun t1 => z_bx (f_X10_needTape (q) t1 u) (fun w2 q4 u3 => some (.inr (), q4, u3)))) else (if (u 1 1) ≤ x2 then ((z_b01 x1).bind (fun t5 => z_bx (f_X10_needTape (q) t5 u) (fun w6 q8 u7 => some (.inr (), q8, u7)))) else (if (x2 &&& (1 : Int32)) = 0 then (if z_in x2 400 = true then (z_let (u 2 (x2).toNatClampNeg) (fun z10 => if (4 : Int32) < z10 then (f_X10_needFires_32 q n (0 : Int32) (x2 + (1 : Int32)) u) else (f_X10_needFires_32 q n (1 : Int32) (x2 + (1 : Int32)) u))) else none) else (if z_in x2 400 = true then (z_let (u 2 (x2).toNatClampNeg) (fun z9 => if (1 : Int32) < z9 then (f_X10_needFires_32 q n (0 : Int32) (x2 + (1 : Int32)) u) else (f_X10_needFires_32 q n (1 : Int32) (x2 + (1 : Int32)) u))) else none))) := rfl
def f_X10_needFires (q : zq)  (u : zU) : Option ((String ⊕ Unit) × zq × zU) :=
  if (40 : Int32) < (u 1 1) then (f_X10_needFires_32 q 5000 (0 : Int32) (0 : Int32) u) else (if ((u 1 1) &&& (1 : Int32)) = 0 then (f_X10_needFires_32 q 5000 (1 : Int32) (0 : Int32) u) else (f_X10_needFires_32 q 5000 (0 : Int32) (0 : Int32) u))
set_option maxRecDepth 100000 in
set_option maxHeartbeats 4000000 in
theorem l_X10_needFires_32 {l : Launch} {D : zD} {A : Nat → Prop} {b : Nat} {p : Program} {e : Env} {s : State} {m : MethodId} {args : Array Value} {below : List Frame} {meth : Method} {c : Code} {G : zG} {q : zq} {q' : zq} {u' : zU} (C0 : z_C p c cX10_needFires s m args yX10_needFires.cls D A) (hr : meth.sig.returnType = none) (hml : c.maxLocals = 4) (hlk : meth.locks = false) (hT : zTop G q) : ∀ (n : Nat) (x1 : Int32) (x2 : Int32) (u : zU) (H : Heap) (locs : List Loc) (ls : Array Slot), f_X10_needFires_32 q n x1 x2 u = some (.inr (), q', u') → z_W D A b (zg G q) u H → va_S A s.heap H locs → lv_has ls 4 [(0, .ref (b + 0)), (1, .int x1), (2, .int x2)] → W p l e { frames := 7, cells := 0, slots := 0, locals := 111 } s m args below meth c H locs 0 0 (z_EndT D A b G below args s none q' u') (F0 m 32 ls []) := by
  have hx := C0.1
  have hb := C0.2.1
  have hs := hT.1
  intro n
  induction n with
  | zero => intro x1 x2 u H locs ls h hW hS hl; cases h
  | succ n ih =>
    intro x1 x2 u H locs ls h hW hS hl
    rw [f_X10_needFires_32_s] at h
    refine lv_iload_n hx hb dX10_needFires_32 rfl (lv_at hl 1 rfl) ?_
    refine lv_if_eq (tgt := 84) hx hb dX10_needFires_33 (by decide) (fun hc => ?_) (fun hc => ?_)
    · replace h := z_t h hc
      clear hc
      refine lv_aload_n hx hb dX10_needFires_84 rfl (lv_at hl 0 rfl) ?_
      refine lv_iload_n hx hb dX10_needFires_85 rfl (lv_at hl 1 rfl) ?_
      replace h := z_bd h
      obtain ⟨t1, hq, h⟩ := h
      refine z_as (z_b01_eq hq) ?_
      clear hq
      replace h := z_bxd h
      rcases h with ⟨E1, hq, hE⟩ | ⟨w2, q4, u3, hq, h⟩
      · cases hE
      · refine z_cvTv (As := [.int (bI t1)]) C0 hml hl.1 hW hS (c_X10_needTape l D A b G (q) hT t1 u hq) mv_X10_405 (zk1 (hs 0 (by decide))) ⟨Nat.le_of_ble_eq_true rfl, Nat.le_of_ble_eq_true rfl⟩ rfl rfl (Nat.le_of_ble_eq_true rfl) dX10_needFires_86 (fun H locs hW hS hT => ?_)
        clear hq
        have hs := hT.1
        cases h
        exact z_vretT C0 hr hlk hW hS hT dX10_needFires_89
    · replace h := z_f h hc
      clear hc
      refine lv_iload_n hx hb dX10_needFires_36 rfl (lv_at hl 2 rfl) ?_
      refine lv_aload_n hx hb dX10_needFires_37 rfl (lv_at hl 0 rfl) ?_
      refine z_getr (o := 1) C0 hW fl_X10_10 (zk1 (hs 0 (by decide))) rfl (zk3 (hs 0 (by decide)) 0) dX10_needFires_38 ?_
      refine z_geti C0 hW fl_X10_85 (zk1 (hs 1 (by decide))) rfl dX10_needFires_41 ?_
      refine lv_icmp_ge (tgt := 84) hx hb dX10_needFires_44 (by decide) (fun hc => ?_) (fun hc => ?_)
      · replace h := z_t h hc
        clear hc
        refine lv_aload_n hx hb dX10_needFires_84 rfl (lv_at hl 0 rfl) ?_
        refine lv_iload_n hx hb dX10_needFires_85 rfl (lv_at hl 1 rfl) ?_
        replace h := z_bd h
        obtain ⟨t5, hq, h⟩ := h
        refine z_as (z_b01_eq hq) ?_
        clear hq
        replace h := z_bxd h
        rcases h with ⟨E1, hq, hE⟩ | ⟨w6, q8, u7, hq, h⟩
        · cases hE
        · refine z_cvTv (As := [.int (bI t5)]) C0 hml hl.1 hW hS (c_X10_needTape l D A b G (q) hT t5 u hq) mv_X10_405 (zk1 (hs 0 (by decide))) ⟨Nat.le_of_ble_eq_true rfl, Nat.le_of_ble_eq_true rfl⟩ rfl rfl (Nat.le_of_ble_eq_true rfl) dX10_needFires_86 (fun H locs hW hS hT => ?_)
          clear hq
          have hs := hT.1
          cases h
          exact z_vretT C0 hr hlk hW hS hT dX10_needFires_89
      · replace h := z_f h hc
        clear hc
        refine lv_iload_n hx hb dX10_needFires_47 rfl (lv_at hl 2 rfl) ?_
        refine lv_iconst (v := (1 : Int32)) hx hb dX10_needFires_48 (by decide) ?_
        refine lv_iand hx hb dX10_needFires_49 ?_
        refine lv_if_ne (tgt := 57) hx hb dX10_needFires_50 (by decide) (fun hc => ?_) (fun hc => ?_)
        · replace h := z_f h hc
          clear hc
          refine lv_iconst (v := (1 : Int32)) hx hb dX10_needFires_57 (by decide) ?_
          refine lv_istore_n (lv' := [(3, .int (1 : Int32)), (0, .ref (b + 0)), (1, .int x1), (2, .int x2)]) hx hb dX10_needFires_58 rfl hl (by decide) rfl (fun ls hl => ?_)
          refine lv_aload_n hx hb dX10_needFires_59 rfl (lv_at hl 1 rfl) ?_
          refine z_getr (o := 1) C0 hW fl_X10_10 (zk1 (hs 0 (by decide))) rfl (zk3 (hs 0 (by decide)) 0) dX10_needFires_60 ?_
          refine z_getr (o := 2) C0 hW fl_X10_402 (zk1 (hs 1 (by decide))) rfl (zk3 (hs 1 (by decide)) 0) dX10_needFires_63 ?_
          refine lv_iload_n hx hb dX10_needFires_66 rfl (lv_at hl 3 rfl) ?_
          replace h := z_if h
          obtain ⟨hin, h⟩ := h
          refine z_iald (n := 400) C0 hW (zk1 (hs 2 (by decide))) (zk2 (hs 2 (by decide))) hin rfl dX10_needFires_67 ?_
          clear hin
          refine lv_topi (fun z9 e1 => ?_)
          replace h := z_ly h e1
          clear e1
          refine lv_iload_n hx hb dX10_needFires_68 rfl (lv_at hl 0 rfl) ?_
          refine lv_icmp_gt (tgt := 76) hx hb dX10_needFires_69 (by decide) (fun hc => ?_) (fun hc => ?_)
          · replace h := z_t h hc
            clear hc
            refine lv_iconst (v := (0 : Int32)) hx hb dX10_needFires_76 (by decide) ?_
            refine lv_istore_n (lv' := [(1, .int (0 : Int32)), (3, .int (1 : Int32)), (0, .ref (b + 0)), (2, .int x2)]) hx hb dX10_needFires_77 rfl hl (by decide) rfl (fun ls hl => ?_)
            refine lv_iinc (v := x2 + (1 : Int32)) (lv' := [(2, .int (x2 + (1 : Int32))), (1, .int (0 : Int32)), (3, .int (1 : Int32)), (0, .ref (b + 0))]) hx hb dX10_needFires_78 hl (k := 3) rfl rfl (by decide) rfl (fun ls hl => ?_)
            refine lv_goto (tgt := 32) hx hb dX10_needFires_81 (by decide) ?_
            exact ih _ _ _ _ _ _ h hW hS (lv_sub hl [3, 1, 0] rfl)
          · replace h := z_f h hc
            clear hc
            refine lv_iconst (v := (1 : Int32)) hx hb dX10_needFires_72 (by decide) ?_
            refine lv_goto (tgt := 77) hx hb dX10_needFires_73 (by decide) ?_
            refine lv_istore_n (lv' := [(1, .int (1 : Int32)), (3, .int (1 : Int32)), (0, .ref (b + 0)), (2, .int x2)]) hx hb dX10_needFires_77 rfl hl (by decide) rfl (fun ls hl => ?_)
            refine lv_iinc (v := x2 + (1 : Int32)) (lv' := [(2, .int (x2 + (1 : Int32))), (1, .int (1 : Int32)), (3, .int (1 : Int32)), (0, .ref (b + 0))]) hx hb dX10_needFires_78 hl (k := 3) rfl rfl (by decide) rfl (fun ls hl => ?_)
            refine lv_goto (tgt := 32) hx hb dX10_needFires_81 (by decide) ?_
            exact ih _ _ _ _ _ _ h hW hS (lv_sub hl [3, 1, 0] rfl)
        · replace h := z_t h hc
          clear hc
          refine lv_iconst (v := (4 : Int32)) hx hb dX10_needFires_53 (by decide) ?_
          refine lv_goto (tgt := 58) hx hb dX10_needFires_54 (by decide) ?_
          refine lv_istore_n (lv' := [(3, .int (4 : Int32)), (0, .ref (b + 0)), (1, .int x1), (2, .int x2)]) hx hb dX10_needFires_58 rfl hl (by decide) rfl (fun ls hl => ?_)
          refine lv_aload_n hx hb dX10_needFires_59 rfl (lv_at hl 1 rfl) ?_
          refine z_getr (o := 1) C0 hW fl_X10_10 (zk1 (hs 0 (by decide))) rfl (zk3 (hs 0 (by decide)) 0) dX10_needFires_60 ?_
          refine z_getr (o := 2) C0 hW fl_X10_402 (zk1 (hs 1 (by decide))) rfl (zk3 (hs 1 (by decide)) 0) dX10_needFires_63 ?_
          refine lv_iload_n hx hb dX10_needFires_66 rfl (lv_at hl 3 rfl) ?_
          replace h := z_if h
          obtain ⟨hin, h⟩ := h
          refine z_iald (n := 400) C0 hW (zk1 (hs 2 (by decide))) (zk2 (hs 2 (by decide))) hin rfl dX10_needFires_67 ?_
          clear hin
          refine lv_topi (fun z10 e1 => ?_)
          replace h := z_ly h e1
          clear e1
          refine lv_iload_n hx hb dX10_needFires_68 rfl (lv_at hl 0 rfl) ?_
          refine lv_icmp_gt (tgt := 76) hx hb dX10_needFires_69 (by decide) (fun hc => ?_) (fun hc => ?_)
          · replace h := z_t h hc
            clear hc
            refine lv_iconst (v := (0 : Int32)) hx hb dX10_needFires_76 (by decide) ?_
            refine lv_istore_n (lv' := [(1, .int (0 : Int32)), (3, .int (4 : Int32)), (0, .ref (b + 0)), (2, .int x2)]) hx hb dX10_needFires_77 rfl hl (by decide) rfl (fun ls hl => ?_)
            refine lv_iinc (v := x2 + (1 : Int32)) (lv' := [(2, .int (x2 + (1 : Int32))), (1, .int (0 : Int32)), (3, .int (4 : Int32)), (0, .ref (b + 0))]) hx hb dX10_needFires_78 hl (k := 3) rfl rfl (by decide) rfl (fun ls hl => ?_)
            refine lv_goto (tgt := 32) hx hb dX10_needFires_81 (by decide) ?_
            exact ih _ _ _ _ _ _ h hW hS (lv_sub hl [3, 1, 0] rfl)
          · replace h := z_f h hc
            clear hc
            refine lv_iconst (v := (1 : Int32)) hx hb dX10_needFires_72 (by decide) ?_
            refine lv_goto (tgt := 77) hx hb dX10_needFires_73 (by decide) ?_
            refine lv_istore_n (lv' := [(1, .int (1 : Int32)), (3, .int (4 : Int32)), (0, .ref (b + 0)), (2, .int x2)]) hx hb dX10_needFires_77 rfl hl (by decide) rfl (fun ls hl => ?_)
            refine lv_iinc (v := x2 + (1 : Int32)) (lv' := [(2, .int (x2 + (1 : Int32))), (1, .int (1 : Int32)), (3, .int (4 : Int32)), (0, .ref (b + 0))]) hx hb dX10_needFires_78 hl (k := 3) rfl rfl (by decide) rfl (fun ls hl => ?_)
            refine lv_goto (tgt := 32) hx hb dX10_needFires_81 (by decide) ?_
            exact ih _ _ _ _ _ _ h hW hS (lv_sub hl [3, 1, 0] rfl)
theorem f_X10_needFires_e (q : zq)  (u : zU) : f_X10_needFires q u = if (40 : Int32) < (u 1 1) then (f_X10_needFires_32 q 5000 (0 : Int32) (0 : Int32) u) else (if ((u 1 1) &&& (1 : Int32)) = 0 then (f_X10_needFires_32 q 5000 (1 : Int32) (0 : Int32) u) else (f_X10_needFires_32 q 5000 (0 : Int32) (0 : Int32) u)) := rfl
set_option maxRecDepth 100000 in
set_option maxHeartbeats 4000000 in
theorem c_X10_needFires (l : Launch) (D : zD) (A : Nat → Prop) (b : Nat) (G : zG) (q : zq) (hT : zTop G q)  (u : zU) {q' : zq} {u' : zU} (h : f_X10_needFires q u = some (.inr (), q', u')) : z_MT l D A b G yX10_needFires cX10_needFires 4 none 7 111 [.ref (b + 0)] q u none q' u' := by
  refine z_enterT (by decide) (Nat.le_of_ble_eq_true rfl) ?_
  intro p e s m below meth c ls C0 hr hml hlk hW hS hl
  have hl : lv_has ls 4 [(0, .ref (b + 0))] := hl
  have hx := C0.1
  have hb := C0.2.1
  have hs := hT.1
  rw [f_X10_needFires_e] at h
  refine lv_aload_n hx hb dX10_needFires_0 rfl (lv_at hl 0 rfl) ?_
  refine z_getr (o := 1) C0 hW fl_X10_10 (zk1 (hs 0 (by decide))) rfl (zk3 (hs 0 (by decide)) 0) dX10_needFires_1 ?_
  refine z_geti C0 hW fl_X10_85 (zk1 (hs 1 (by decide))) rfl dX10_needFires_4 ?_
  refine lv_bipush (v := (40 : Int32)) hx hb dX10_needFires_7 (by decide) ?_
  refine lv_icmp_gt (tgt := 28) hx hb dX10_needFires_9 (by decide) (fun hc => ?_) (fun hc => ?_)
  · replace h := z_t h hc
    clear hc
    refine lv_iconst (v := (0 : Int32)) hx hb dX10_needFires_28 (by decide) ?_
    refine lv_istore_n (lv' := [(1, .int (0 : Int32)), (0, .ref (b + 0))]) hx hb dX10_needFires_29 rfl hl (by decide) rfl (fun ls hl => ?_)
    refine lv_iconst (v := (0 : Int32)) hx hb dX10_needFires_30 (by decide) ?_
    refine lv_istore_n (lv' := [(2, .int (0 : Int32)), (1, .int (0 : Int32)), (0, .ref (b + 0))]) hx hb dX10_needFires_31 rfl hl (by decide) rfl (fun ls hl => ?_)
    exact l_X10_needFires_32 C0 hr hml hlk hT 5000 _ _ _ _ _ _ h hW hS (lv_sub hl [2, 1, 0] rfl)
  · replace h := z_f h hc
    clear hc
    refine lv_aload_n hx hb dX10_needFires_12 rfl (lv_at hl 0 rfl) ?_
    refine z_getr (o := 1) C0 hW fl_X10_10 (zk1 (hs 0 (by decide))) rfl (zk3 (hs 0 (by decide)) 0) dX10_needFires_13 ?_
    refine z_geti C0 hW fl_X10_85 (zk1 (hs 1 (by decide))) rfl dX10_needFires_16 ?_
    refine lv_iconst (v := (1 : Int32)) hx hb dX10_needFires_19 (by decide) ?_
    refine lv_iand hx hb dX10_needFires_20 ?_
    refine lv_if_ne (tgt := 28) hx hb dX10_needFires_21 (by decide) (fun hc => ?_) (fun hc => ?_)
    · replace h := z_f h hc
      clear hc
      refine lv_iconst (v := (0 : Int32)) hx hb dX10_needFires_28 (by decide) ?_
      refine lv_istore_n (lv' := [(1, .int (0 : Int32)), (0, .ref (b + 0))]) hx hb dX10_needFires_29 rfl hl (by decide) rfl (fun ls hl => ?_)
      refine lv_iconst (v := (0 : Int32)) hx hb dX10_needFires_30 (by decide) ?_
      refine lv_istore_n (lv' := [(2, .int (0 : Int32)), (1, .int (0 : Int32)), (0, .ref (b + 0))]) hx hb dX10_needFires_31 rfl hl (by decide) rfl (fun ls hl => ?_)
      exact l_X10_needFires_32 C0 hr hml hlk hT 5000 _ _ _ _ _ _ h hW hS (lv_sub hl [2, 1, 0] rfl)
    · replace h := z_t h hc
      clear hc
      refine lv_iconst (v := (1 : Int32)) hx hb dX10_needFires_24 (by decide) ?_
      refine lv_goto (tgt := 29) hx hb dX10_needFires_25 (by decide) ?_
      refine lv_istore_n (lv' := [(1, .int (1 : Int32)), (0, .ref (b + 0))]) hx hb dX10_needFires_29 rfl hl (by decide) rfl (fun ls hl => ?_)
      refine lv_iconst (v := (0 : Int32)) hx hb dX10_needFires_30 (by decide) ?_
      refine lv_istore_n (lv' := [(2, .int (0 : Int32)), (1, .int (1 : Int32)), (0, .ref (b + 0))]) hx hb dX10_needFires_31 rfl hl (by decide) rfl (fun ls hl => ?_)
      exact l_X10_needFires_32 C0 hr hml hlk hT 5000 _ _ _ _ _ _ h hW hS (lv_sub hl [2, 1, 0] rfl)
set_option maxRecDepth 100000 in
set_option maxHeartbeats 4000000 in
theorem lx_X10_needFires_32 {l : Launch} {D : zD} {A : Nat → Prop} {b : Nat} {p : Program} {e : Env} {s : State} {m : MethodId} {args : Array Value} {below : List Frame} {meth : Method} {c : Code} {G : zG} {q : zq} {E : String} {q' : zq} {u' : zU} (C0 : z_C p c cX10_needFires s m args yX10_needFires.cls D A) (hex : ∀ x ∈ c.exceptionTable.toList, False) (hml : c.maxLocals = 4) (hlk : meth.locks = false) (hT : zTop G q) (hst : l.stackTraces = false) : ∀ (n : Nat) (x1 : Int32) (x2 : Int32) (u : zU) (H : Heap) (locs : List Loc) (ls : Array Slot), f_X10_needFires_32 q n x1 x2 u = some (.inl E, q', u') → z_W D A b (zg G q) u H → va_S A s.heap H locs → lv_has ls 4 [(0, .ref (b + 0)), (1, .int x1), (2, .int x2)] → W p l e { frames := 7, cells := 1, slots := 6, locals := 111 } s m args below meth c H locs 0 0 (z_EndX D A b G below args s E q' u') (F0 m 32 ls []) := by
  have hx := C0.1
  have hb := C0.2.1
  have hs := hT.1
  intro n
  induction n with
  | zero => intro x1 x2 u H locs ls h hW hS hl; cases h
  | succ n ih =>
    intro x1 x2 u H locs ls h hW hS hl
    rw [f_X10_needFires_32_s] at h
    refine lv_iload_n hx hb dX10_needFires_32 rfl (lv_at hl 1 rfl) ?_
    refine lv_if_eq (tgt := 84) hx hb dX10_needFires_33 (by decide) (fun hc => ?_) (fun hc => ?_)
    · replace h := z_t h hc
      clear hc
      refine lv_aload_n hx hb dX10_needFires_84 rfl (lv_at hl 0 rfl) ?_
      refine lv_iload_n hx hb dX10_needFires_85 rfl (lv_at hl 1 rfl) ?_
      replace h := z_bd h
      obtain ⟨t1, hq, h⟩ := h
      refine z_as (z_b01_eq hq) ?_
      clear hq
      replace h := z_bxd h
      rcases h with ⟨E1, hq, hE⟩ | ⟨w2, q4, u3, hq, h⟩
      · cases hE
        exact z_cvX (As := [.int (bI t1)]) C0 hml hl.1 hW hS hex hlk (t_X10_needTape l D A b G (q) hT hst t1 u hq) mv_X10_405 (zk1 (hs 0 (by decide))) ⟨Nat.le_of_ble_eq_true rfl, Nat.le_of_ble_eq_true rfl⟩ ⟨Nat.le_of_ble_eq_true rfl, Nat.le_of_ble_eq_true rfl⟩ rfl rfl (Nat.le_of_ble_eq_true rfl) dX10_needFires_86
      · refine z_cvTv (As := [.int (bI t1)]) C0 hml hl.1 hW hS (c_X10_needTape l D A b G (q) hT t1 u hq) mv_X10_405 (zk1 (hs 0 (by decide))) ⟨Nat.le_of_ble_eq_true rfl, Nat.le_of_ble_eq_true rfl⟩ rfl rfl (Nat.le_of_ble_eq_true rfl) dX10_needFires_86 (fun H locs hW hS hT => ?_)
        clear hq
        have hs := hT.1
        cases h
    · replace h := z_f h hc
      clear hc
      refine lv_iload_n hx hb dX10_needFires_36 rfl (lv_at hl 2 rfl) ?_
      refine lv_aload_n hx hb dX10_needFires_37 rfl (lv_at hl 0 rfl) ?_
      refine z_getr (o := 1) C0 hW fl_X10_10 (zk1 (hs 0 (by decide))) rfl (zk3 (hs 0 (by decide)) 0) dX10_needFires_38 ?_
      refine z_geti C0 hW fl_X10_85 (zk1 (hs 1 (by decide))) rfl dX10_needFires_41 ?_
      refine lv_icmp_ge (tgt := 84) hx hb dX10_needFires_44 (by decide) (fun hc => ?_) (fun hc => ?_)
      · replace h := z_t h hc
        clear hc
        refine lv_aload_n hx hb dX10_needFires_84 rfl (lv_at hl 0 rfl) ?_
        refine lv_iload_n hx hb dX10_needFires_85 rfl (lv_at hl 1 rfl) ?_
        replace h := z_bd h
        obtain ⟨t5, hq, h⟩ := h
        refine z_as (z_b01_eq hq) ?_
        clear hq
        replace h := z_bxd h
        rcases h with ⟨E1, hq, hE⟩ | ⟨w6, q8, u7, hq, h⟩
        · cases hE
          exact z_cvX (As := [.int (bI t5)]) C0 hml hl.1 hW hS hex hlk (t_X10_needTape l D A b G (q) hT hst t5 u hq) mv_X10_405 (zk1 (hs 0 (by decide))) ⟨Nat.le_of_ble_eq_true rfl, Nat.le_of_ble_eq_true rfl⟩ ⟨Nat.le_of_ble_eq_true rfl, Nat.le_of_ble_eq_true rfl⟩ rfl rfl (Nat.le_of_ble_eq_true rfl) dX10_needFires_86
        · refine z_cvTv (As := [.int (bI t5)]) C0 hml hl.1 hW hS (c_X10_needTape l D A b G (q) hT t5 u hq) mv_X10_405 (zk1 (hs 0 (by decide))) ⟨Nat.le_of_ble_eq_true rfl, Nat.le_of_ble_eq_true rfl⟩ rfl rfl (Nat.le_of_ble_eq_true rfl) dX10_needFires_86 (fun H locs hW hS hT => ?_)
          clear hq
          have hs := hT.1
          cases h
      · replace h := z_f h hc
        clear hc
        refine lv_iload_n hx hb dX10_needFires_47 rfl (lv_at hl 2 rfl) ?_
        refine lv_iconst (v := (1 : Int32)) hx hb dX10_needFires_48 (by decide) ?_
        refine lv_iand hx hb dX10_needFires_49 ?_
        refine lv_if_ne (tgt := 57) hx hb dX10_needFires_50 (by decide) (fun hc => ?_) (fun hc => ?_)
        · replace h := z_f h hc
          clear hc
          refine lv_iconst (v := (1 : Int32)) hx hb dX10_needFires_57 (by decide) ?_
          refine lv_istore_n (lv' := [(3, .int (1 : Int32)), (0, .ref (b + 0)), (1, .int x1), (2, .int x2)]) hx hb dX10_needFires_58 rfl hl (by decide) rfl (fun ls hl => ?_)
          refine lv_aload_n hx hb dX10_needFires_59 rfl (lv_at hl 1 rfl) ?_
          refine z_getr (o := 1) C0 hW fl_X10_10 (zk1 (hs 0 (by decide))) rfl (zk3 (hs 0 (by decide)) 0) dX10_needFires_60 ?_
          refine z_getr (o := 2) C0 hW fl_X10_402 (zk1 (hs 1 (by decide))) rfl (zk3 (hs 1 (by decide)) 0) dX10_needFires_63 ?_
          refine lv_iload_n hx hb dX10_needFires_66 rfl (lv_at hl 3 rfl) ?_
          replace h := z_if h
          obtain ⟨hin, h⟩ := h
          refine z_iald (n := 400) C0 hW (zk1 (hs 2 (by decide))) (zk2 (hs 2 (by decide))) hin rfl dX10_needFires_67 ?_
          clear hin
          refine lv_topi (fun z9 e1 => ?_)
          replace h := z_ly h e1
          clear e1
          refine lv_iload_n hx hb dX10_needFires_68 rfl (lv_at hl 0 rfl) ?_
          refine lv_icmp_gt (tgt := 76) hx hb dX10_needFires_69 (by decide) (fun hc => ?_) (fun hc => ?_)
          · replace h := z_t h hc
            clear hc
            refine lv_iconst (v := (0 : Int32)) hx hb dX10_needFires_76 (by decide) ?_
            refine lv_istore_n (lv' := [(1, .int (0 : Int32)), (3, .int (1 : Int32)), (0, .ref (b + 0)), (2, .int x2)]) hx hb dX10_needFires_77 rfl hl (by decide) rfl (fun ls hl => ?_)
            refine lv_iinc (v := x2 + (1 : Int32)) (lv' := [(2, .int (x2 + (1 : Int32))), (1, .int (0 : Int32)), (3, .int (1 : Int32)), (0, .ref (b + 0))]) hx hb dX10_needFires_78 hl (k := 3) rfl rfl (by decide) rfl (fun ls hl => ?_)
            refine lv_goto (tgt := 32) hx hb dX10_needFires_81 (by decide) ?_
            exact ih _ _ _ _ _ _ h hW hS (lv_sub hl [3, 1, 0] rfl)
          · replace h := z_f h hc
            clear hc
            refine lv_iconst (v := (1 : Int32)) hx hb dX10_needFires_72 (by decide) ?_
            refine lv_goto (tgt := 77) hx hb dX10_needFires_73 (by decide) ?_
            refine lv_istore_n (lv' := [(1, .int (1 : Int32)), (3, .int (1 : Int32)), (0, .ref (b + 0)), (2, .int x2)]) hx hb dX10_needFires_77 rfl hl (by decide) rfl (fun ls hl => ?_)
            refine lv_iinc (v := x2 + (1 : Int32)) (lv' := [(2, .int (x2 + (1 : Int32))), (1, .int (1 : Int32)), (3, .int (1 : Int32)), (0, .ref (b + 0))]) hx hb dX10_needFires_78 hl (k := 3) rfl rfl (by decide) rfl (fun ls hl => ?_)
            refine lv_goto (tgt := 32) hx hb dX10_needFires_81 (by decide) ?_
            exact ih _ _ _ _ _ _ h hW hS (lv_sub hl [3, 1, 0] rfl)
        · replace h := z_t h hc
          clear hc
          refine lv_iconst (v := (4 : Int32)) hx hb dX10_needFires_53 (by decide) ?_
          refine lv_goto (tgt := 58) hx hb dX10_needFires_54 (by decide) ?_
          refine lv_istore_n (lv' := [(3, .int (4 : Int32)), (0, .ref (b + 0)), (1, .int x1), (2, .int x2)]) hx hb dX10_needFires_58 rfl hl (by decide) rfl (fun ls hl => ?_)
          refine lv_aload_n hx hb dX10_needFires_59 rfl (lv_at hl 1 rfl) ?_
          refine z_getr (o := 1) C0 hW fl_X10_10 (zk1 (hs 0 (by decide))) rfl (zk3 (hs 0 (by decide)) 0) dX10_needFires_60 ?_
          refine z_getr (o := 2) C0 hW fl_X10_402 (zk1 (hs 1 (by decide))) rfl (zk3 (hs 1 (by decide)) 0) dX10_needFires_63 ?_
          refine lv_iload_n hx hb dX10_needFires_66 rfl (lv_at hl 3 rfl) ?_
          replace h := z_if h
          obtain ⟨hin, h⟩ := h
          refine z_iald (n := 400) C0 hW (zk1 (hs 2 (by decide))) (zk2 (hs 2 (by decide))) hin rfl dX10_needFires_67 ?_
          clear hin
          refine lv_topi (fun z10 e1 => ?_)
          replace h := z_ly h e1
          clear e1
          refine lv_iload_n hx hb dX10_needFires_68 rfl (lv_at hl 0 rfl) ?_
          refine lv_icmp_gt (tgt := 76) hx hb dX10_needFires_69 (by decide) (fun hc => ?_) (fun hc => ?_)
          · replace h := z_t h hc
            clear hc
            refine lv_iconst (v := (0 : Int32)) hx hb dX10_needFires_76 (by decide) ?_
            refine lv_istore_n (lv' := [(1, .int (0 : Int32)), (3, .int (4 : Int32)), (0, .ref (b + 0)), (2, .int x2)]) hx hb dX10_needFires_77 rfl hl (by decide) rfl (fun ls hl => ?_)
            refine lv_iinc (v := x2 + (1 : Int32)) (lv' := [(2, .int (x2 + (1 : Int32))), (1, .int (0 : Int32)), (3, .int (4 : Int32)), (0, .ref (b + 0))]) hx hb dX10_needFires_78 hl (k := 3) rfl rfl (by decide) rfl (fun ls hl => ?_)
            refine lv_goto (tgt := 32) hx hb dX10_needFires_81 (by decide) ?_
            exact ih _ _ _ _ _ _ h hW hS (lv_sub hl [3, 1, 0] rfl)
          · replace h := z_f h hc
            clear hc
            refine lv_iconst (v := (1 : Int32)) hx hb dX10_needFires_72 (by decide) ?_
            refine lv_goto (tgt := 77) hx hb dX10_needFires_73 (by decide) ?_
            refine lv_istore_n (lv' := [(1, .int (1 : Int32)), (3, .int (4 : Int32)), (0, .ref (b + 0)), (2, .int x2)]) hx hb dX10_needFires_77 rfl hl (by decide) rfl (fun ls hl => ?_)
            refine lv_iinc (v := x2 + (1 : Int32)) (lv' := [(2, .int (x2 + (1 : Int32))), (1, .int (1 : Int32)), (3, .int (4 : Int32)), (0, .ref (b + 0))]) hx hb dX10_needFires_78 hl (k := 3) rfl rfl (by decide) rfl (fun ls hl => ?_)
            refine lv_goto (tgt := 32) hx hb dX10_needFires_81 (by decide) ?_
            exact ih _ _ _ _ _ _ h hW hS (lv_sub hl [3, 1, 0] rfl)
set_option maxRecDepth 100000 in
set_option maxHeartbeats 4000000 in
theorem t_X10_needFires (l : Launch) (D : zD) (A : Nat → Prop) (b : Nat) (G : zG) (q : zq) (hT : zTop G q) (hst : l.stackTraces = false)  (u : zU) {E : String} {q' : zq} {u' : zU} (h : f_X10_needFires q u = some (.inl E, q', u')) : z_TX l D A b G yX10_needFires cX10_needFires 4 none 7 111 [.ref (b + 0)] q u E q' u' := by
  refine z_enterX (by decide) (Nat.le_of_ble_eq_true rfl) ?_
  intro p e s m below meth c ls C0 hex hml hlk hW hS hl
  have hl : lv_has ls 4 [(0, .ref (b + 0))] := hl
  have hx := C0.1
  have hb := C0.2.1
  have hs := hT.1
  rw [f_X10_needFires_e] at h
  refine lv_aload_n hx hb dX10_needFires_0 rfl (lv_at hl 0 rfl) ?_
  refine z_getr (o := 1) C0 hW fl_X10_10 (zk1 (hs 0 (by decide))) rfl (zk3 (hs 0 (by decide)) 0) dX10_needFires_1 ?_
  refine z_geti C0 hW fl_X10_85 (zk1 (hs 1 (by decide))) rfl dX10_needFires_4 ?_
  refine lv_bipush (v := (40 : Int32)) hx hb dX10_needFires_7 (by decide) ?_
  refine lv_icmp_gt (tgt := 28) hx hb dX10_needFires_9 (by decide) (fun hc => ?_) (fun hc => ?_)
  · replace h := z_t h hc
    clear hc
    refine lv_iconst (v := (0 : Int32)) hx hb dX10_needFires_28 (by decide) ?_
    refine lv_istore_n (lv' := [(1, .int (0 : Int32)), (0, .ref (b + 0))]) hx hb dX10_needFires_29 rfl hl (by decide) rfl (fun ls hl => ?_)
    refine lv_iconst (v := (0 : Int32)) hx hb dX10_needFires_30 (by decide) ?_
    refine lv_istore_n (lv' := [(2, .int (0 : Int32)), (1, .int (0 : Int32)), (0, .ref (b + 0))]) hx hb dX10_needFires_31 rfl hl (by decide) rfl (fun ls hl => ?_)
    exact lx_X10_needFires_32 C0 hex hml hlk hT hst 5000 _ _ _ _ _ _ h hW hS (lv_sub hl [2, 1, 0] rfl)
  · replace h := z_f h hc
    clear hc
    refine lv_aload_n hx hb dX10_needFires_12 rfl (lv_at hl 0 rfl) ?_
    refine z_getr (o := 1) C0 hW fl_X10_10 (zk1 (hs 0 (by decide))) rfl (zk3 (hs 0 (by decide)) 0) dX10_needFires_13 ?_
    refine z_geti C0 hW fl_X10_85 (zk1 (hs 1 (by decide))) rfl dX10_needFires_16 ?_
    refine lv_iconst (v := (1 : Int32)) hx hb dX10_needFires_19 (by decide) ?_
    refine lv_iand hx hb dX10_needFires_20 ?_
    refine lv_if_ne (tgt := 28) hx hb dX10_needFires_21 (by decide) (fun hc => ?_) (fun hc => ?_)
    · replace h := z_f h hc
      clear hc
      refine lv_iconst (v := (0 : Int32)) hx hb dX10_needFires_28 (by decide) ?_
      refine lv_istore_n (lv' := [(1, .int (0 : Int32)), (0, .ref (b + 0))]) hx hb dX10_needFires_29 rfl hl (by decide) rfl (fun ls hl => ?_)
      refine lv_iconst (v := (0 : Int32)) hx hb dX10_needFires_30 (by decide) ?_
      refine lv_istore_n (lv' := [(2, .int (0 : Int32)), (1, .int (0 : Int32)), (0, .ref (b + 0))]) hx hb dX10_needFires_31 rfl hl (by decide) rfl (fun ls hl => ?_)
      exact lx_X10_needFires_32 C0 hex hml hlk hT hst 5000 _ _ _ _ _ _ h hW hS (lv_sub hl [2, 1, 0] rfl)
    · replace h := z_t h hc
      clear hc
      refine lv_iconst (v := (1 : Int32)) hx hb dX10_needFires_24 (by decide) ?_
      refine lv_goto (tgt := 29) hx hb dX10_needFires_25 (by decide) ?_
      refine lv_istore_n (lv' := [(1, .int (1 : Int32)), (0, .ref (b + 0))]) hx hb dX10_needFires_29 rfl hl (by decide) rfl (fun ls hl => ?_)
      refine lv_iconst (v := (0 : Int32)) hx hb dX10_needFires_30 (by decide) ?_
      refine lv_istore_n (lv' := [(2, .int (0 : Int32)), (1, .int (1 : Int32)), (0, .ref (b + 0))]) hx hb dX10_needFires_31 rfl hl (by decide) rfl (fun ls hl => ?_)
      exact lx_X10_needFires_32 C0 hex hml hlk hT hst 5000 _ _ _ _ _ _ h hW hS (lv_sub hl [2, 1, 0] rfl)
def f_X10_boards_23 (q : zq) : Nat → Int32 → Int32 → Int32 → zU → Option ((String ⊕ Int32) × zq × zU)
  | 0, _, _, _, _ => none
  | n + 1, x1, x2, x3, u =>
    if (100 : Int32) < x3 then (some (.inr (-1 : Int32), q, u)) else (if z_in x1 8 = true then (z_let (u 18 (x1).toNatClampNeg) (fun z9 => if z9 = (-1 : Int32) then ((f_X9_halt 17 (q 1) x2 false u).bind (fun u10 => f_X10_boards_23 q n x1 x2 (x3 + (1 : Int32)) u10)) else (some (.inr x3, q, u)))) else none)
theorem f_X10_boards_23_s (q : zq) (n : Nat) (x1 : Int32) (x2 : Int32) (x3 : Int32) (u : zU) : f_X10_boards_23 q (n + 1) x1 x2 x3 u = if (100 : Int32) < x3 then (some (.inr (-1 : Int32), q, u)) else (if z_in x1 8 = true then (z_let (u 18 (x1).toNatClampNeg) (fun z9 => if z9 = (-1 : Int32) then ((f_X9_halt 17 (q 1) x2 false u).bind (fun u10 => f_X10_boards_23 q n x1 x2 (x3 + (1 : Int32)) u10)) else (some (.inr x3, q, u)))) else none) := rfl
def f_X10_boards (q : zq) (a1 : Int32) (a2 : Int32) (u : zU) : Option ((String ⊕ Int32) × zq × zU) :=
  z_bx (f_X10_needRider (q) a1 u) (fun w1 q3 u2 => z_bx (f_X10_needDraw (q3) a2 u2) (fun w4 q6 u5 => z_let (f_X9_copy 17 (q6 1) 6 (q6 0) u5) (fun u7 => z_let (zup q6 1 (q6 0)) (fun q8 => f_X10_boards_23 q8 5000 a1 a2 (0 : Int32) u7))))
set_option maxRecDepth 100000 in
set_option maxHeartbeats 4000000 in
theorem l_X10_boards_23 {l : Launch} {D : zD} {A : Nat → Prop} {b : Nat} {p : Program} {e : Env} {s : State} {m : MethodId} {args : Array Value} {below : List Frame} {meth : Method} {c : Code} {G : zG} {q : zq} {v : Int32} {q' : zq} {u' : zU} (C0 : z_C p c cX10_boards s m args yX10_boards.cls D A) (hr : meth.sig.returnType = (some .int)) (hml : c.maxLocals = 4) (hlk : meth.locks = false) (hT : zTop G q) : ∀ (n : Nat) (x1 : Int32) (x2 : Int32) (x3 : Int32) (u : zU) (H : Heap) (locs : List Loc) (ls : Array Slot), f_X10_boards_23 q n x1 x2 x3 u = some (.inr v, q', u') → z_W D A b (zg G q) u H → va_S A s.heap H locs → lv_has ls 4 [(0, .ref (b + 0)), (1, .int x1), (2, .int x2), (3, .int x3)] → W p l e { frames := 8, cells := 0, slots := 0, locals := 149 } s m args below meth c H locs 0 0 (z_EndT D A b G below args s (some (.int v)) q' u') (F0 m 23 ls []) := by
  have hx := C0.1
  have hb := C0.2.1
  have hs := hT.1
  intro n
  induction n with
  | zero => intro x1 x2 x3 u H locs ls h hW hS hl; cases h
  | succ n ih =>
    intro x1 x2 x3 u H locs ls h hW hS hl
    rw [f_X10_boards_23_s] at h
    refine lv_iload_n hx hb dX10_boards_23 rfl (lv_at hl 3 rfl) ?_
    refine lv_bipush (v := (100 : Int32)) hx hb dX10_boards_24 (by decide) ?_
    refine lv_icmp_gt (tgt := 59) hx hb dX10_boards_26 (by decide) (fun hc => ?_) (fun hc => ?_)
    · replace h := z_t h hc
      clear hc
      refine lv_iconst (v := (-1 : Int32)) hx hb dX10_boards_59 (by decide) ?_
      cases h
      exact z_iretT C0 hr hlk hW hS hT dX10_boards_60
    · replace h := z_f h hc
      clear hc
      refine lv_aload_n hx hb dX10_boards_29 rfl (lv_at hl 0 rfl) ?_
      refine z_getr (o := 17) C0 hW fl_X10_32 (zk1 (hs 0 (by decide))) rfl (zk3 (hs 0 (by decide)) 3) dX10_boards_30 ?_
      refine z_getr (o := 18) C0 hW fl_X10_139 (zT1 hT).1 rfl ((zT1 hT).2.1 0 (by decide)).1 dX10_boards_33 ?_
      refine lv_iload_n hx hb dX10_boards_36 rfl (lv_at hl 1 rfl) ?_
      replace h := z_if h
      obtain ⟨hin, h⟩ := h
      refine z_iald (n := 8) C0 hW ((zT1 hT).2.1 0 (by decide)).2.1 ((zT1 hT).2.1 0 (by decide)).2.2 hin rfl dX10_boards_37 ?_
      clear hin
      refine lv_topi (fun z9 e1 => ?_)
      replace h := z_ly h e1
      clear e1
      refine lv_iconst (v := (-1 : Int32)) hx hb dX10_boards_38 (by decide) ?_
      refine lv_icmp_eq (tgt := 44) hx hb dX10_boards_39 (by decide) (fun hc => ?_) (fun hc => ?_)
      · replace h := z_t h hc
        clear hc
        refine lv_aload_n hx hb dX10_boards_44 rfl (lv_at hl 0 rfl) ?_
        refine z_getr (o := 17) C0 hW fl_X10_32 (zk1 (hs 0 (by decide))) rfl (zk3 (hs 0 (by decide)) 3) dX10_boards_45 ?_
        refine lv_iload_n hx hb dX10_boards_48 rfl (lv_at hl 2 rfl) ?_
        refine lv_iconst (v := (0 : Int32)) hx hb dX10_boards_49 (by decide) ?_
        replace h := z_bd h
        obtain ⟨u10, hq, h⟩ := h
        refine z_cvv (As := [.int x2, .int (bI false)]) C0 hml hl.1 hW hS (c_X9_halt l D A b (zg G q) 17 (q 1) (zT1 hT) x2 false u hq) mv_X10_301 (zT1 hT).1 ⟨Nat.le_of_ble_eq_true rfl, Nat.le_of_ble_eq_true rfl⟩ rfl rfl (Nat.le_of_ble_eq_true rfl) dX10_boards_50 (fun H locs hW hS => ?_)
        clear hq
        refine lv_iinc (v := x3 + (1 : Int32)) (lv' := [(3, .int (x3 + (1 : Int32))), (0, .ref (b + 0)), (1, .int x1), (2, .int x2)]) hx hb dX10_boards_53 hl (k := 3) rfl rfl (by decide) rfl (fun ls hl => ?_)
        refine lv_goto (tgt := 23) hx hb dX10_boards_56 (by decide) ?_
        exact ih _ _ _ _ _ _ _ h hW hS (lv_sub hl [1, 2, 3, 0] rfl)
      · replace h := z_f h hc
        clear hc
        refine lv_iload_n hx hb dX10_boards_42 rfl (lv_at hl 3 rfl) ?_
        cases h
        exact z_iretT C0 hr hlk hW hS hT dX10_boards_43
theorem f_X10_boards_e (q : zq) (a1 : Int32) (a2 : Int32) (u : zU) : f_X10_boards q a1 a2 u = z_bx (f_X10_needRider (q) a1 u) (fun w1 q3 u2 => z_bx (f_X10_needDraw (q3) a2 u2) (fun w4 q6 u5 => z_let (f_X9_copy 17 (q6 1) 6 (q6 0) u5) (fun u7 => z_let (zup q6 1 (q6 0)) (fun q8 => f_X10_boards_23 q8 5000 a1 a2 (0 : Int32) u7)))) := rfl
set_option maxRecDepth 100000 in
set_option maxHeartbeats 4000000 in
theorem c_X10_boards (l : Launch) (D : zD) (A : Nat → Prop) (b : Nat) (G : zG) (q : zq) (hT : zTop G q) (a1 : Int32) (a2 : Int32) (u : zU) {v : Int32} {q' : zq} {u' : zU} (h : f_X10_boards q a1 a2 u = some (.inr v, q', u')) : z_MT l D A b G yX10_boards cX10_boards 4 (some .int) 8 149 [.ref (b + 0), .int a1, .int a2] q u (some (.int v)) q' u' := by
  refine z_enterT (by decide) (Nat.le_of_ble_eq_true rfl) ?_
  intro p e s m below meth c ls C0 hr hml hlk hW hS hl
  have hl : lv_has ls 4 [(0, .ref (b + 0)), (1, .int a1), (2, .int a2)] := hl
  have hx := C0.1
  have hb := C0.2.1
  have hs := hT.1
  rw [f_X10_boards_e] at h
  refine lv_aload_n hx hb dX10_boards_0 rfl (lv_at hl 0 rfl) ?_
  refine lv_iload_n hx hb dX10_boards_1 rfl (lv_at hl 1 rfl) ?_
  replace h := z_bxd h
  rcases h with ⟨E1, hq, hE⟩ | ⟨w1, q3, u2, hq, h⟩
  · cases hE
  · refine z_cvTv (As := [.int a1]) C0 hml hl.1 hW hS (c_X10_needRider l D A b G (q) hT a1 u hq) mv_X10_136 (zk1 (hs 0 (by decide))) ⟨Nat.le_of_ble_eq_true rfl, Nat.le_of_ble_eq_true rfl⟩ rfl rfl (Nat.le_of_ble_eq_true rfl) dX10_boards_2 (fun H locs hW hS hT => ?_)
    clear hq
    have hs := hT.1
    refine lv_aload_n hx hb dX10_boards_5 rfl (lv_at hl 0 rfl) ?_
    refine lv_iload_n hx hb dX10_boards_6 rfl (lv_at hl 2 rfl) ?_
    replace h := z_bxd h
    rcases h with ⟨E1, hq, hE⟩ | ⟨w4, q6, u5, hq, h⟩
    · cases hE
    · refine z_cvTv (As := [.int a2]) C0 hml hl.1 hW hS (c_X10_needDraw l D A b G (q3) hT a2 u2 hq) mv_X10_411 (zk1 (hs 0 (by decide))) ⟨Nat.le_of_ble_eq_true rfl, Nat.le_of_ble_eq_true rfl⟩ rfl rfl (Nat.le_of_ble_eq_true rfl) dX10_boards_7 (fun H locs hW hS hT => ?_)
      clear hq
      have hs := hT.1
      refine lv_aload_n hx hb dX10_boards_10 rfl (lv_at hl 0 rfl) ?_
      refine z_getr (o := 17) C0 hW fl_X10_32 (zk1 (hs 0 (by decide))) rfl (zk3 (hs 0 (by decide)) 3) dX10_boards_11 ?_
      refine lv_aload_n hx hb dX10_boards_14 rfl (lv_at hl 0 rfl) ?_
      refine z_getr (o := 6) C0 hW fl_X10_28 (zk1 (hs 0 (by decide))) rfl (zk3 (hs 0 (by decide)) 2) dX10_boards_15 ?_
      obtain ⟨u7, hq⟩ : ∃ y, f_X9_copy 17 (q6 1) 6 (q6 0) u5 = y := ⟨_, rfl⟩
      replace h := z_lz h hq
      refine z_cv2v (As := [.ref (b + 6)]) C0 hml hl.1 hW hS (c_X9_copy l D A b (zg G q6) 17 (q6 1) 6 (q6 0) (zT1 hT) (zT0 hT) u5 hq) mv_X10_92 (zT1 hT).1 ⟨Nat.le_of_ble_eq_true rfl, Nat.le_of_ble_eq_true rfl⟩ rfl rfl (Nat.le_of_ble_eq_true rfl) dX10_boards_18 (fun H locs hW hS => ?_)
      clear hq
      replace hW : z_W D A b (zg G (zup q6 1 (q6 0))) u7 H := by rw [← zgs_zg G q6 (i := 1) (by decide) (q6 0)]; exact hW
      replace hT := zTop_up (i := 1) hT (j := 0) (by decide)
      obtain ⟨q8, e1⟩ : ∃ y, y = zup q6 1 (q6 0) := ⟨_, rfl⟩
      rw [← e1] at hW hT
      replace h := z_ly h e1
      clear e1
      replace hs := hT.1
      refine lv_iconst (v := (0 : Int32)) hx hb dX10_boards_21 (by decide) ?_
      refine lv_istore_n (lv' := [(3, .int (0 : Int32)), (0, .ref (b + 0)), (1, .int a1), (2, .int a2)]) hx hb dX10_boards_22 rfl hl (by decide) rfl (fun ls hl => ?_)
      exact l_X10_boards_23 C0 hr hml hlk hT 5000 _ _ _ _ _ _ _ h hW hS (lv_sub hl [1, 2, 3, 0] rfl)
set_option maxRecDepth 100000 in
set_option maxHeartbeats 4000000 in
theorem lx_X10_boards_23 {l : Launch} {D : zD} {A : Nat → Prop} {b : Nat} {p : Program} {e : Env} {s : State} {m : MethodId} {args : Array Value} {below : List Frame} {meth : Method} {c : Code} {G : zG} {q : zq} {E : String} {q' : zq} {u' : zU} (C0 : z_C p c cX10_boards s m args yX10_boards.cls D A) (hex : ∀ x ∈ c.exceptionTable.toList, False) (hml : c.maxLocals = 4) (hlk : meth.locks = false) (hT : zTop G q) (hst : l.stackTraces = false) : ∀ (n : Nat) (x1 : Int32) (x2 : Int32) (x3 : Int32) (u : zU) (H : Heap) (locs : List Loc) (ls : Array Slot), f_X10_boards_23 q n x1 x2 x3 u = some (.inl E, q', u') → z_W D A b (zg G q) u H → va_S A s.heap H locs → lv_has ls 4 [(0, .ref (b + 0)), (1, .int x1), (2, .int x2), (3, .int x3)] → W p l e { frames := 8, cells := 1, slots := 6, locals := 149 } s m args below meth c H locs 0 0 (z_EndX D A b G below args s E q' u') (F0 m 23 ls []) := by
  have hx := C0.1
  have hb := C0.2.1
  have hs := hT.1
  intro n
  induction n with
  | zero => intro x1 x2 x3 u H locs ls h hW hS hl; cases h
  | succ n ih =>
    intro x1 x2 x3 u H locs ls h hW hS hl
    rw [f_X10_boards_23_s] at h
    refine lv_iload_n hx hb dX10_boards_23 rfl (lv_at hl 3 rfl) ?_
    refine lv_bipush (v := (100 : Int32)) hx hb dX10_boards_24 (by decide) ?_
    refine lv_icmp_gt (tgt := 59) hx hb dX10_boards_26 (by decide) (fun hc => ?_) (fun hc => ?_)
    · replace h := z_t h hc
      clear hc
      refine lv_iconst (v := (-1 : Int32)) hx hb dX10_boards_59 (by decide) ?_
      cases h
    · replace h := z_f h hc
      clear hc
      refine lv_aload_n hx hb dX10_boards_29 rfl (lv_at hl 0 rfl) ?_
      refine z_getr (o := 17) C0 hW fl_X10_32 (zk1 (hs 0 (by decide))) rfl (zk3 (hs 0 (by decide)) 3) dX10_boards_30 ?_
      refine z_getr (o := 18) C0 hW fl_X10_139 (zT1 hT).1 rfl ((zT1 hT).2.1 0 (by decide)).1 dX10_boards_33 ?_
      refine lv_iload_n hx hb dX10_boards_36 rfl (lv_at hl 1 rfl) ?_
      replace h := z_if h
      obtain ⟨hin, h⟩ := h
      refine z_iald (n := 8) C0 hW ((zT1 hT).2.1 0 (by decide)).2.1 ((zT1 hT).2.1 0 (by decide)).2.2 hin rfl dX10_boards_37 ?_
      clear hin
      refine lv_topi (fun z9 e1 => ?_)
      replace h := z_ly h e1
      clear e1
      refine lv_iconst (v := (-1 : Int32)) hx hb dX10_boards_38 (by decide) ?_
      refine lv_icmp_eq (tgt := 44) hx hb dX10_boards_39 (by decide) (fun hc => ?_) (fun hc => ?_)
      · replace h := z_t h hc
        clear hc
        refine lv_aload_n hx hb dX10_boards_44 rfl (lv_at hl 0 rfl) ?_
        refine z_getr (o := 17) C0 hW fl_X10_32 (zk1 (hs 0 (by decide))) rfl (zk3 (hs 0 (by decide)) 3) dX10_boards_45 ?_
        refine lv_iload_n hx hb dX10_boards_48 rfl (lv_at hl 2 rfl) ?_
        refine lv_iconst (v := (0 : Int32)) hx hb dX10_boards_49 (by decide) ?_
        replace h := z_bd h
        obtain ⟨u10, hq, h⟩ := h
        refine z_cvv (As := [.int x2, .int (bI false)]) C0 hml hl.1 hW hS (c_X9_halt l D A b (zg G q) 17 (q 1) (zT1 hT) x2 false u hq) mv_X10_301 (zT1 hT).1 ⟨Nat.le_of_ble_eq_true rfl, Nat.le_of_ble_eq_true rfl⟩ rfl rfl (Nat.le_of_ble_eq_true rfl) dX10_boards_50 (fun H locs hW hS => ?_)
        clear hq
        refine lv_iinc (v := x3 + (1 : Int32)) (lv' := [(3, .int (x3 + (1 : Int32))), (0, .ref (b + 0)), (1, .int x1), (2, .int x2)]) hx hb dX10_boards_53 hl (k := 3) rfl rfl (by decide) rfl (fun ls hl => ?_)
        refine lv_goto (tgt := 23) hx hb dX10_boards_56 (by decide) ?_
        exact ih _ _ _ _ _ _ _ h hW hS (lv_sub hl [1, 2, 3, 0] rfl)
      · replace h := z_f h hc
        clear hc
        refine lv_iload_n hx hb dX10_boards_42 rfl (lv_at hl 3 rfl) ?_
        cases h
set_option maxRecDepth 100000 in
set_option maxHeartbeats 4000000 in
theorem t_X10_boards (l : Launch) (D : zD) (A : Nat → Prop) (b : Nat) (G : zG) (q : zq) (hT : zTop G q) (hst : l.stackTraces = false) (a1 : Int32) (a2 : Int32) (u : zU) {E : String} {q' : zq} {u' : zU} (h : f_X10_boards q a1 a2 u = some (.inl E, q', u')) : z_TX l D A b G yX10_boards cX10_boards 4 (some .int) 8 149 [.ref (b + 0), .int a1, .int a2] q u E q' u' := by
  refine z_enterX (by decide) (Nat.le_of_ble_eq_true rfl) ?_
  intro p e s m below meth c ls C0 hex hml hlk hW hS hl
  have hl : lv_has ls 4 [(0, .ref (b + 0)), (1, .int a1), (2, .int a2)] := hl
  have hx := C0.1
  have hb := C0.2.1
  have hs := hT.1
  rw [f_X10_boards_e] at h
  refine lv_aload_n hx hb dX10_boards_0 rfl (lv_at hl 0 rfl) ?_
  refine lv_iload_n hx hb dX10_boards_1 rfl (lv_at hl 1 rfl) ?_
  replace h := z_bxd h
  rcases h with ⟨E1, hq, hE⟩ | ⟨w1, q3, u2, hq, h⟩
  · cases hE
    exact z_cvX (As := [.int a1]) C0 hml hl.1 hW hS hex hlk (t_X10_needRider l D A b G (q) hT hst a1 u hq) mv_X10_136 (zk1 (hs 0 (by decide))) ⟨Nat.le_of_ble_eq_true rfl, Nat.le_of_ble_eq_true rfl⟩ ⟨Nat.le_of_ble_eq_true rfl, Nat.le_of_ble_eq_true rfl⟩ rfl rfl (Nat.le_of_ble_eq_true rfl) dX10_boards_2
  · refine z_cvTv (As := [.int a1]) C0 hml hl.1 hW hS (c_X10_needRider l D A b G (q) hT a1 u hq) mv_X10_136 (zk1 (hs 0 (by decide))) ⟨Nat.le_of_ble_eq_true rfl, Nat.le_of_ble_eq_true rfl⟩ rfl rfl (Nat.le_of_ble_eq_true rfl) dX10_boards_2 (fun H locs hW hS hT => ?_)
    clear hq
    have hs := hT.1
    refine lv_aload_n hx hb dX10_boards_5 rfl (lv_at hl 0 rfl) ?_
    refine lv_iload_n hx hb dX10_boards_6 rfl (lv_at hl 2 rfl) ?_
    replace h := z_bxd h
    rcases h with ⟨E1, hq, hE⟩ | ⟨w4, q6, u5, hq, h⟩
    · cases hE
      exact z_cvX (As := [.int a2]) C0 hml hl.1 hW hS hex hlk (t_X10_needDraw l D A b G (q3) hT hst a2 u2 hq) mv_X10_411 (zk1 (hs 0 (by decide))) ⟨Nat.le_of_ble_eq_true rfl, Nat.le_of_ble_eq_true rfl⟩ ⟨Nat.le_of_ble_eq_true rfl, Nat.le_of_ble_eq_true rfl⟩ rfl rfl (Nat.le_of_ble_eq_true rfl) dX10_boards_7
    · refine z_cvTv (As := [.int a2]) C0 hml hl.1 hW hS (c_X10_needDraw l D A b G (q3) hT a2 u2 hq) mv_X10_411 (zk1 (hs 0 (by decide))) ⟨Nat.le_of_ble_eq_true rfl, Nat.le_of_ble_eq_true rfl⟩ rfl rfl (Nat.le_of_ble_eq_true rfl) dX10_boards_7 (fun H locs hW hS hT => ?_)
      clear hq
      have hs := hT.1
      refine lv_aload_n hx hb dX10_boards_10 rfl (lv_at hl 0 rfl) ?_
      refine z_getr (o := 17) C0 hW fl_X10_32 (zk1 (hs 0 (by decide))) rfl (zk3 (hs 0 (by decide)) 3) dX10_boards_11 ?_
      refine lv_aload_n hx hb dX10_boards_14 rfl (lv_at hl 0 rfl) ?_
      refine z_getr (o := 6) C0 hW fl_X10_28 (zk1 (hs 0 (by decide))) rfl (zk3 (hs 0 (by decide)) 2) dX10_boards_15 ?_
      obtain ⟨u7, hq⟩ : ∃ y, f_X9_copy 17 (q6 1) 6 (q6 0) u5 = y := ⟨_, rfl⟩
      replace h := z_lz h hq
      refine z_cv2v (As := [.ref (b + 6)]) C0 hml hl.1 hW hS (c_X9_copy l D A b (zg G q6) 17 (q6 1) 6 (q6 0) (zT1 hT) (zT0 hT) u5 hq) mv_X10_92 (zT1 hT).1 ⟨Nat.le_of_ble_eq_true rfl, Nat.le_of_ble_eq_true rfl⟩ rfl rfl (Nat.le_of_ble_eq_true rfl) dX10_boards_18 (fun H locs hW hS => ?_)
      clear hq
      replace hW : z_W D A b (zg G (zup q6 1 (q6 0))) u7 H := by rw [← zgs_zg G q6 (i := 1) (by decide) (q6 0)]; exact hW
      replace hT := zTop_up (i := 1) hT (j := 0) (by decide)
      obtain ⟨q8, e1⟩ : ∃ y, y = zup q6 1 (q6 0) := ⟨_, rfl⟩
      rw [← e1] at hW hT
      replace h := z_ly h e1
      clear e1
      replace hs := hT.1
      refine lv_iconst (v := (0 : Int32)) hx hb dX10_boards_21 (by decide) ?_
      refine lv_istore_n (lv' := [(3, .int (0 : Int32)), (0, .ref (b + 0)), (1, .int a1), (2, .int a2)]) hx hb dX10_boards_22 rfl hl (by decide) rfl (fun ls hl => ?_)
      exact lx_X10_boards_23 C0 hex hml hlk hT hst 5000 _ _ _ _ _ _ _ h hW hS (lv_sub hl [1, 2, 3, 0] rfl)
def f_X10_ruled_23 (q : zq) : Nat → Int32 → Int32 → Int32 → zU → Option ((String ⊕ Int32) × zq × zU)
  | 0, _, _, _, _ => none
  | n + 1, x1, x2, x3, u =>
    if (100 : Int32) < x3 then (some (.inr (-1 : Int32), q, u)) else ((f_X9_firstIn 17 (q 1) (u 17 14) u).bind (fun r9 => if r9 = x1 then (some (.inr x3, q, u)) else ((f_X9_halt 17 (q 1) x2 false u).bind (fun u10 => f_X10_ruled_23 q n x1 x2 (x3 + (1 : Int32)) u10))))
theorem f_X10_ruled_23_s (q : zq) (n : Nat) (x1 : Int32) (x2 : Int32) (x3 : Int32) (u : zU) : f_X10_ruled_23 q (n + 1) x1 x2 x3 u = if (100 : Int32) < x3 then (some (.inr (-1 : Int32), q, u)) else ((f_X9_firstIn 17 (q 1) (u 17 14) u).bind (fun r9 => if r9 = x1 then (some (.inr x3, q, u)) else ((f_X9_halt 17 (q 1) x2 false u).bind (fun u10 => f_X10_ruled_23 q n x1 x2 (x3 + (1 : Int32)) u10)))) := rfl
def f_X10_ruled (q : zq) (a1 : Int32) (a2 : Int32) (u : zU) : Option ((String ⊕ Int32) × zq × zU) :=
  z_bx (f_X10_needRider (q) a1 u) (fun w1 q3 u2 => z_bx (f_X10_needDraw (q3) a2 u2) (fun w4 q6 u5 => z_let (f_X9_copy 17 (q6 1) 6 (q6 0) u5) (fun u7 => z_let (zup q6 1 (q6 0)) (fun q8 => f_X10_ruled_23 q8 5000 a1 a2 (0 : Int32) u7))))
set_option maxRecDepth 100000 in
set_option maxHeartbeats 4000000 in
theorem l_X10_ruled_23 {l : Launch} {D : zD} {A : Nat → Prop} {b : Nat} {p : Program} {e : Env} {s : State} {m : MethodId} {args : Array Value} {below : List Frame} {meth : Method} {c : Code} {G : zG} {q : zq} {v : Int32} {q' : zq} {u' : zU} (C0 : z_C p c cX10_ruled s m args yX10_ruled.cls D A) (hr : meth.sig.returnType = (some .int)) (hml : c.maxLocals = 4) (hlk : meth.locks = false) (hT : zTop G q) : ∀ (n : Nat) (x1 : Int32) (x2 : Int32) (x3 : Int32) (u : zU) (H : Heap) (locs : List Loc) (ls : Array Slot), f_X10_ruled_23 q n x1 x2 x3 u = some (.inr v, q', u') → z_W D A b (zg G q) u H → va_S A s.heap H locs → lv_has ls 4 [(0, .ref (b + 0)), (1, .int x1), (2, .int x2), (3, .int x3)] → W p l e { frames := 8, cells := 0, slots := 0, locals := 149 } s m args below meth c H locs 0 0 (z_EndT D A b G below args s (some (.int v)) q' u') (F0 m 23 ls []) := by
  have hx := C0.1
  have hb := C0.2.1
  have hs := hT.1
  intro n
  induction n with
  | zero => intro x1 x2 x3 u H locs ls h hW hS hl; cases h
  | succ n ih =>
    intro x1 x2 x3 u H locs ls h hW hS hl
    rw [f_X10_ruled_23_s] at h
    refine lv_iload_n hx hb dX10_ruled_23 rfl (lv_at hl 3 rfl) ?_
    refine lv_bipush (v := (100 : Int32)) hx hb dX10_ruled_24 (by decide) ?_
    refine lv_icmp_gt (tgt := 64) hx hb dX10_ruled_26 (by decide) (fun hc => ?_) (fun hc => ?_)
    · replace h := z_t h hc
      clear hc
      refine lv_iconst (v := (-1 : Int32)) hx hb dX10_ruled_64 (by decide) ?_
      cases h
      exact z_iretT C0 hr hlk hW hS hT dX10_ruled_65
    · replace h := z_f h hc
      clear hc
      refine lv_aload_n hx hb dX10_ruled_29 rfl (lv_at hl 0 rfl) ?_
      refine z_getr (o := 17) C0 hW fl_X10_32 (zk1 (hs 0 (by decide))) rfl (zk3 (hs 0 (by decide)) 3) dX10_ruled_30 ?_
      refine lv_aload_n hx hb dX10_ruled_33 rfl (lv_at hl 0 rfl) ?_
      refine z_getr (o := 17) C0 hW fl_X10_32 (zk1 (hs 0 (by decide))) rfl (zk3 (hs 0 (by decide)) 3) dX10_ruled_34 ?_
      refine z_geti C0 hW fl_X10_211 (zT1 hT).1 rfl dX10_ruled_37 ?_
      replace h := z_bd h
      obtain ⟨r9, hq, h⟩ := h
      refine z_cvi (As := [.int (u 17 14)]) C0 hml hl.1 hW hS (c_X9_firstIn l D A b (zg G q) 17 (q 1) (zT1 hT) (u 17 14) u hq) mv_X10_214 (zT1 hT).1 ⟨Nat.le_of_ble_eq_true rfl, Nat.le_of_ble_eq_true rfl⟩ rfl rfl (Nat.le_of_ble_eq_true rfl) dX10_ruled_40 (fun H locs hW hS => ?_)
      clear hq
      refine lv_iload_n hx hb dX10_ruled_43 rfl (lv_at hl 1 rfl) ?_
      refine lv_icmp_ne (tgt := 49) hx hb dX10_ruled_44 (by decide) (fun hc => ?_) (fun hc => ?_)
      · replace h := z_f h hc
        clear hc
        refine lv_aload_n hx hb dX10_ruled_49 rfl (lv_at hl 0 rfl) ?_
        refine z_getr (o := 17) C0 hW fl_X10_32 (zk1 (hs 0 (by decide))) rfl (zk3 (hs 0 (by decide)) 3) dX10_ruled_50 ?_
        refine lv_iload_n hx hb dX10_ruled_53 rfl (lv_at hl 2 rfl) ?_
        refine lv_iconst (v := (0 : Int32)) hx hb dX10_ruled_54 (by decide) ?_
        replace h := z_bd h
        obtain ⟨u10, hq, h⟩ := h
        refine z_cvv (As := [.int x2, .int (bI false)]) C0 hml hl.1 hW hS (c_X9_halt l D A b (zg G q) 17 (q 1) (zT1 hT) x2 false u hq) mv_X10_301 (zT1 hT).1 ⟨Nat.le_of_ble_eq_true rfl, Nat.le_of_ble_eq_true rfl⟩ rfl rfl (Nat.le_of_ble_eq_true rfl) dX10_ruled_55 (fun H locs hW hS => ?_)
        clear hq
        refine lv_iinc (v := x3 + (1 : Int32)) (lv' := [(3, .int (x3 + (1 : Int32))), (0, .ref (b + 0)), (1, .int x1), (2, .int x2)]) hx hb dX10_ruled_58 hl (k := 3) rfl rfl (by decide) rfl (fun ls hl => ?_)
        refine lv_goto (tgt := 23) hx hb dX10_ruled_61 (by decide) ?_
        exact ih _ _ _ _ _ _ _ h hW hS (lv_sub hl [1, 2, 3, 0] rfl)
      · replace h := z_t h hc
        clear hc
        refine lv_iload_n hx hb dX10_ruled_47 rfl (lv_at hl 3 rfl) ?_
        cases h
        exact z_iretT C0 hr hlk hW hS hT dX10_ruled_48
theorem f_X10_ruled_e (q : zq) (a1 : Int32) (a2 : Int32) (u : zU) : f_X10_ruled q a1 a2 u = z_bx (f_X10_needRider (q) a1 u) (fun w1 q3 u2 => z_bx (f_X10_needDraw (q3) a2 u2) (fun w4 q6 u5 => z_let (f_X9_copy 17 (q6 1) 6 (q6 0) u5) (fun u7 => z_let (zup q6 1 (q6 0)) (fun q8 => f_X10_ruled_23 q8 5000 a1 a2 (0 : Int32) u7)))) := rfl
set_option maxRecDepth 100000 in
set_option maxHeartbeats 4000000 in
theorem c_X10_ruled (l : Launch) (D : zD) (A : Nat → Prop) (b : Nat) (G : zG) (q : zq) (hT : zTop G q) (a1 : Int32) (a2 : Int32) (u : zU) {v : Int32} {q' : zq} {u' : zU} (h : f_X10_ruled q a1 a2 u = some (.inr v, q', u')) : z_MT l D A b G yX10_ruled cX10_ruled 4 (some .int) 8 149 [.ref (b + 0), .int a1, .int a2] q u (some (.int v)) q' u' := by
  refine z_enterT (by decide) (Nat.le_of_ble_eq_true rfl) ?_
  intro p e s m below meth c ls C0 hr hml hlk hW hS hl
  have hl : lv_has ls 4 [(0, .ref (b + 0)), (1, .int a1), (2, .int a2)] := hl
  have hx := C0.1
  have hb := C0.2.1
  have hs := hT.1
  rw [f_X10_ruled_e] at h
  refine lv_aload_n hx hb dX10_ruled_0 rfl (lv_at hl 0 rfl) ?_
  refine lv_iload_n hx hb dX10_ruled_1 rfl (lv_at hl 1 rfl) ?_
  replace h := z_bxd h
  rcases h with ⟨E1, hq, hE⟩ | ⟨w1, q3, u2, hq, h⟩
  · cases hE
  · refine z_cvTv (As := [.int a1]) C0 hml hl.1 hW hS (c_X10_needRider l D A b G (q) hT a1 u hq) mv_X10_136 (zk1 (hs 0 (by decide))) ⟨Nat.le_of_ble_eq_true rfl, Nat.le_of_ble_eq_true rfl⟩ rfl rfl (Nat.le_of_ble_eq_true rfl) dX10_ruled_2 (fun H locs hW hS hT => ?_)
    clear hq
    have hs := hT.1
    refine lv_aload_n hx hb dX10_ruled_5 rfl (lv_at hl 0 rfl) ?_
    refine lv_iload_n hx hb dX10_ruled_6 rfl (lv_at hl 2 rfl) ?_
    replace h := z_bxd h
    rcases h with ⟨E1, hq, hE⟩ | ⟨w4, q6, u5, hq, h⟩
    · cases hE
    · refine z_cvTv (As := [.int a2]) C0 hml hl.1 hW hS (c_X10_needDraw l D A b G (q3) hT a2 u2 hq) mv_X10_411 (zk1 (hs 0 (by decide))) ⟨Nat.le_of_ble_eq_true rfl, Nat.le_of_ble_eq_true rfl⟩ rfl rfl (Nat.le_of_ble_eq_true rfl) dX10_ruled_7 (fun H locs hW hS hT => ?_)
      clear hq
      have hs := hT.1
      refine lv_aload_n hx hb dX10_ruled_10 rfl (lv_at hl 0 rfl) ?_
      refine z_getr (o := 17) C0 hW fl_X10_32 (zk1 (hs 0 (by decide))) rfl (zk3 (hs 0 (by decide)) 3) dX10_ruled_11 ?_
      refine lv_aload_n hx hb dX10_ruled_14 rfl (lv_at hl 0 rfl) ?_
      refine z_getr (o := 6) C0 hW fl_X10_28 (zk1 (hs 0 (by decide))) rfl (zk3 (hs 0 (by decide)) 2) dX10_ruled_15 ?_
      obtain ⟨u7, hq⟩ : ∃ y, f_X9_copy 17 (q6 1) 6 (q6 0) u5 = y := ⟨_, rfl⟩
      replace h := z_lz h hq
      refine z_cv2v (As := [.ref (b + 6)]) C0 hml hl.1 hW hS (c_X9_copy l D A b (zg G q6) 17 (q6 1) 6 (q6 0) (zT1 hT) (zT0 hT) u5 hq) mv_X10_92 (zT1 hT).1 ⟨Nat.le_of_ble_eq_true rfl, Nat.le_of_ble_eq_true rfl⟩ rfl rfl (Nat.le_of_ble_eq_true rfl) dX10_ruled_18 (fun H locs hW hS => ?_)
      clear hq
      replace hW : z_W D A b (zg G (zup q6 1 (q6 0))) u7 H := by rw [← zgs_zg G q6 (i := 1) (by decide) (q6 0)]; exact hW
      replace hT := zTop_up (i := 1) hT (j := 0) (by decide)
      obtain ⟨q8, e1⟩ : ∃ y, y = zup q6 1 (q6 0) := ⟨_, rfl⟩
      rw [← e1] at hW hT
      replace h := z_ly h e1
      clear e1
      replace hs := hT.1
      refine lv_iconst (v := (0 : Int32)) hx hb dX10_ruled_21 (by decide) ?_
      refine lv_istore_n (lv' := [(3, .int (0 : Int32)), (0, .ref (b + 0)), (1, .int a1), (2, .int a2)]) hx hb dX10_ruled_22 rfl hl (by decide) rfl (fun ls hl => ?_)
      exact l_X10_ruled_23 C0 hr hml hlk hT 5000 _ _ _ _ _ _ _ h hW hS (lv_sub hl [1, 2, 3, 0] rfl)
set_option maxRecDepth 100000 in
set_option maxHeartbeats 4000000 in
theorem lx_X10_ruled_23 {l : Launch} {D : zD} {A : Nat → Prop} {b : Nat} {p : Program} {e : Env} {s : State} {m : MethodId} {args : Array Value} {below : List Frame} {meth : Method} {c : Code} {G : zG} {q : zq} {E : String} {q' : zq} {u' : zU} (C0 : z_C p c cX10_ruled s m args yX10_ruled.cls D A) (hex : ∀ x ∈ c.exceptionTable.toList, False) (hml : c.maxLocals = 4) (hlk : meth.locks = false) (hT : zTop G q) (hst : l.stackTraces = false) : ∀ (n : Nat) (x1 : Int32) (x2 : Int32) (x3 : Int32) (u : zU) (H : Heap) (locs : List Loc) (ls : Array Slot), f_X10_ruled_23 q n x1 x2 x3 u = some (.inl E, q', u') → z_W D A b (zg G q) u H → va_S A s.heap H locs → lv_has ls 4 [(0, .ref (b + 0)), (1, .int x1), (2, .int x2), (3, .int x3)] → W p l e { frames := 8, cells := 1, slots := 6, locals := 149 } s m args below meth c H locs 0 0 (z_EndX D A b G below args s E q' u') (F0 m 23 ls []) := by
  have hx := C0.1
  have hb := C0.2.1
  have hs := hT.1
  intro n
  induction n with
  | zero => intro x1 x2 x3 u H locs ls h hW hS hl; cases h
  | succ n ih =>
    intro x1 x2 x3 u H locs ls h hW hS hl
    rw [f_X10_ruled_23_s] at h
    refine lv_iload_n hx hb dX10_ruled_23 rfl (lv_at hl 3 rfl) ?_
    refine lv_bipush (v := (100 : Int32)) hx hb dX10_ruled_24 (by decide) ?_
    refine lv_icmp_gt (tgt := 64) hx hb dX10_ruled_26 (by decide) (fun hc => ?_) (fun hc => ?_)
    · replace h := z_t h hc
      clear hc
      refine lv_iconst (v := (-1 : Int32)) hx hb dX10_ruled_64 (by decide) ?_
      cases h
    · replace h := z_f h hc
      clear hc
      refine lv_aload_n hx hb dX10_ruled_29 rfl (lv_at hl 0 rfl) ?_
      refine z_getr (o := 17) C0 hW fl_X10_32 (zk1 (hs 0 (by decide))) rfl (zk3 (hs 0 (by decide)) 3) dX10_ruled_30 ?_
      refine lv_aload_n hx hb dX10_ruled_33 rfl (lv_at hl 0 rfl) ?_
      refine z_getr (o := 17) C0 hW fl_X10_32 (zk1 (hs 0 (by decide))) rfl (zk3 (hs 0 (by decide)) 3) dX10_ruled_34 ?_
      refine z_geti C0 hW fl_X10_211 (zT1 hT).1 rfl dX10_ruled_37 ?_
      replace h := z_bd h
      obtain ⟨r9, hq, h⟩ := h
      refine z_cvi (As := [.int (u 17 14)]) C0 hml hl.1 hW hS (c_X9_firstIn l D A b (zg G q) 17 (q 1) (zT1 hT) (u 17 14) u hq) mv_X10_214 (zT1 hT).1 ⟨Nat.le_of_ble_eq_true rfl, Nat.le_of_ble_eq_true rfl⟩ rfl rfl (Nat.le_of_ble_eq_true rfl) dX10_ruled_40 (fun H locs hW hS => ?_)
      clear hq
      refine lv_iload_n hx hb dX10_ruled_43 rfl (lv_at hl 1 rfl) ?_
      refine lv_icmp_ne (tgt := 49) hx hb dX10_ruled_44 (by decide) (fun hc => ?_) (fun hc => ?_)
      · replace h := z_f h hc
        clear hc
        refine lv_aload_n hx hb dX10_ruled_49 rfl (lv_at hl 0 rfl) ?_
        refine z_getr (o := 17) C0 hW fl_X10_32 (zk1 (hs 0 (by decide))) rfl (zk3 (hs 0 (by decide)) 3) dX10_ruled_50 ?_
        refine lv_iload_n hx hb dX10_ruled_53 rfl (lv_at hl 2 rfl) ?_
        refine lv_iconst (v := (0 : Int32)) hx hb dX10_ruled_54 (by decide) ?_
        replace h := z_bd h
        obtain ⟨u10, hq, h⟩ := h
        refine z_cvv (As := [.int x2, .int (bI false)]) C0 hml hl.1 hW hS (c_X9_halt l D A b (zg G q) 17 (q 1) (zT1 hT) x2 false u hq) mv_X10_301 (zT1 hT).1 ⟨Nat.le_of_ble_eq_true rfl, Nat.le_of_ble_eq_true rfl⟩ rfl rfl (Nat.le_of_ble_eq_true rfl) dX10_ruled_55 (fun H locs hW hS => ?_)
        clear hq
        refine lv_iinc (v := x3 + (1 : Int32)) (lv' := [(3, .int (x3 + (1 : Int32))), (0, .ref (b + 0)), (1, .int x1), (2, .int x2)]) hx hb dX10_ruled_58 hl (k := 3) rfl rfl (by decide) rfl (fun ls hl => ?_)
        refine lv_goto (tgt := 23) hx hb dX10_ruled_61 (by decide) ?_
        exact ih _ _ _ _ _ _ _ h hW hS (lv_sub hl [1, 2, 3, 0] rfl)
      · replace h := z_t h hc
        clear hc
        refine lv_iload_n hx hb dX10_ruled_47 rfl (lv_at hl 3 rfl) ?_
        cases h
set_option maxRecDepth 100000 in
set_option maxHeartbeats 4000000 in
theorem t_X10_ruled (l : Launch) (D : zD) (A : Nat → Prop) (b : Nat) (G : zG) (q : zq) (hT : zTop G q) (hst : l.stackTraces = false) (a1 : Int32) (a2 : Int32) (u : zU) {E : String} {q' : zq} {u' : zU} (h : f_X10_ruled q a1 a2 u = some (.inl E, q', u')) : z_TX l D A b G yX10_ruled cX10_ruled 4 (some .int) 8 149 [.ref (b + 0), .int a1, .int a2] q u E q' u' := by
  refine z_enterX (by decide) (Nat.le_of_ble_eq_true rfl) ?_
  intro p e s m below meth c ls C0 hex hml hlk hW hS hl
  have hl : lv_has ls 4 [(0, .ref (b + 0)), (1, .int a1), (2, .int a2)] := hl
  have hx := C0.1
  have hb := C0.2.1
  have hs := hT.1
  rw [f_X10_ruled_e] at h
  refine lv_aload_n hx hb dX10_ruled_0 rfl (lv_at hl 0 rfl) ?_
  refine lv_iload_n hx hb dX10_ruled_1 rfl (lv_at hl 1 rfl) ?_
  replace h := z_bxd h
  rcases h with ⟨E1, hq, hE⟩ | ⟨w1, q3, u2, hq, h⟩
  · cases hE
    exact z_cvX (As := [.int a1]) C0 hml hl.1 hW hS hex hlk (t_X10_needRider l D A b G (q) hT hst a1 u hq) mv_X10_136 (zk1 (hs 0 (by decide))) ⟨Nat.le_of_ble_eq_true rfl, Nat.le_of_ble_eq_true rfl⟩ ⟨Nat.le_of_ble_eq_true rfl, Nat.le_of_ble_eq_true rfl⟩ rfl rfl (Nat.le_of_ble_eq_true rfl) dX10_ruled_2
  · refine z_cvTv (As := [.int a1]) C0 hml hl.1 hW hS (c_X10_needRider l D A b G (q) hT a1 u hq) mv_X10_136 (zk1 (hs 0 (by decide))) ⟨Nat.le_of_ble_eq_true rfl, Nat.le_of_ble_eq_true rfl⟩ rfl rfl (Nat.le_of_ble_eq_true rfl) dX10_ruled_2 (fun H locs hW hS hT => ?_)
    clear hq
    have hs := hT.1
    refine lv_aload_n hx hb dX10_ruled_5 rfl (lv_at hl 0 rfl) ?_
    refine lv_iload_n hx hb dX10_ruled_6 rfl (lv_at hl 2 rfl) ?_
    replace h := z_bxd h
    rcases h with ⟨E1, hq, hE⟩ | ⟨w4, q6, u5, hq, h⟩
    · cases hE
      exact z_cvX (As := [.int a2]) C0 hml hl.1 hW hS hex hlk (t_X10_needDraw l D A b G (q3) hT hst a2 u2 hq) mv_X10_411 (zk1 (hs 0 (by decide))) ⟨Nat.le_of_ble_eq_true rfl, Nat.le_of_ble_eq_true rfl⟩ ⟨Nat.le_of_ble_eq_true rfl, Nat.le_of_ble_eq_true rfl⟩ rfl rfl (Nat.le_of_ble_eq_true rfl) dX10_ruled_7
    · refine z_cvTv (As := [.int a2]) C0 hml hl.1 hW hS (c_X10_needDraw l D A b G (q3) hT a2 u2 hq) mv_X10_411 (zk1 (hs 0 (by decide))) ⟨Nat.le_of_ble_eq_true rfl, Nat.le_of_ble_eq_true rfl⟩ rfl rfl (Nat.le_of_ble_eq_true rfl) dX10_ruled_7 (fun H locs hW hS hT => ?_)
      clear hq
      have hs := hT.1
      refine lv_aload_n hx hb dX10_ruled_10 rfl (lv_at hl 0 rfl) ?_
      refine z_getr (o := 17) C0 hW fl_X10_32 (zk1 (hs 0 (by decide))) rfl (zk3 (hs 0 (by decide)) 3) dX10_ruled_11 ?_
      refine lv_aload_n hx hb dX10_ruled_14 rfl (lv_at hl 0 rfl) ?_
      refine z_getr (o := 6) C0 hW fl_X10_28 (zk1 (hs 0 (by decide))) rfl (zk3 (hs 0 (by decide)) 2) dX10_ruled_15 ?_
      obtain ⟨u7, hq⟩ : ∃ y, f_X9_copy 17 (q6 1) 6 (q6 0) u5 = y := ⟨_, rfl⟩
      replace h := z_lz h hq
      refine z_cv2v (As := [.ref (b + 6)]) C0 hml hl.1 hW hS (c_X9_copy l D A b (zg G q6) 17 (q6 1) 6 (q6 0) (zT1 hT) (zT0 hT) u5 hq) mv_X10_92 (zT1 hT).1 ⟨Nat.le_of_ble_eq_true rfl, Nat.le_of_ble_eq_true rfl⟩ rfl rfl (Nat.le_of_ble_eq_true rfl) dX10_ruled_18 (fun H locs hW hS => ?_)
      clear hq
      replace hW : z_W D A b (zg G (zup q6 1 (q6 0))) u7 H := by rw [← zgs_zg G q6 (i := 1) (by decide) (q6 0)]; exact hW
      replace hT := zTop_up (i := 1) hT (j := 0) (by decide)
      obtain ⟨q8, e1⟩ : ∃ y, y = zup q6 1 (q6 0) := ⟨_, rfl⟩
      rw [← e1] at hW hT
      replace h := z_ly h e1
      clear e1
      replace hs := hT.1
      refine lv_iconst (v := (0 : Int32)) hx hb dX10_ruled_21 (by decide) ?_
      refine lv_istore_n (lv' := [(3, .int (0 : Int32)), (0, .ref (b + 0)), (1, .int a1), (2, .int a2)]) hx hb dX10_ruled_22 rfl hl (by decide) rfl (fun ls hl => ?_)
      exact lx_X10_ruled_23 C0 hex hml hlk hT hst 5000 _ _ _ _ _ _ _ h hW hS (lv_sub hl [1, 2, 3, 0] rfl)
def f_X10_round_18 (q : zq) : Nat → Int32 → Int32 → zU → Option ((String ⊕ Int32) × zq × zU)
  | 0, _, _, _ => none
  | n + 1, x1, x2, u =>
    if (64 : Int32) < x2 then (some (.inr (-1 : Int32), q, u)) else ((f_X9_halt 17 (q 1) x1 false u).bind (fun u6 => (f_X9_sitsLike 17 (q 1) 6 (q 0) u6).bind (fun t7 => if t7 = true then (some (.inr x2, q, u6)) else (f_X10_round_18 q n x1 (x2 + (1 : Int32)) u6))))
theorem f_X10_round_18_s (q : zq) (n : Nat) (x1 : Int32) (x2 : Int32) (u : zU) : f_X10_round_18 q (n + 1) x1 x2 u = if (64 : Int32) < x2 then (some (.inr (-1 : Int32), q, u)) else ((f_X9_halt 17 (q 1) x1 false u).bind (fun u6 => (f_X9_sitsLike 17 (q 1) 6 (q 0) u6).bind (fun t7 => if t7 = true then (some (.inr x2, q, u6)) else (f_X10_round_18 q n x1 (x2 + (1 : Int32)) u6)))) := rfl
def f_X10_round (q : zq) (a1 : Int32) (u : zU) : Option ((String ⊕ Int32) × zq × zU) :=
  z_bx (f_X10_needDraw (q) a1 u) (fun w1 q3 u2 => z_let (f_X9_copy 17 (q3 1) 6 (q3 0) u2) (fun u4 => z_let (zup q3 1 (q3 0)) (fun q5 => f_X10_round_18 q5 5000 a1 (1 : Int32) u4)))
set_option maxRecDepth 100000 in
set_option maxHeartbeats 4000000 in
theorem l_X10_round_18 {l : Launch} {D : zD} {A : Nat → Prop} {b : Nat} {p : Program} {e : Env} {s : State} {m : MethodId} {args : Array Value} {below : List Frame} {meth : Method} {c : Code} {G : zG} {q : zq} {v : Int32} {q' : zq} {u' : zU} (C0 : z_C p c cX10_round s m args yX10_round.cls D A) (hr : meth.sig.returnType = (some .int)) (hml : c.maxLocals = 3) (hlk : meth.locks = false) (hT : zTop G q) : ∀ (n : Nat) (x1 : Int32) (x2 : Int32) (u : zU) (H : Heap) (locs : List Loc) (ls : Array Slot), f_X10_round_18 q n x1 x2 u = some (.inr v, q', u') → z_W D A b (zg G q) u H → va_S A s.heap H locs → lv_has ls 3 [(0, .ref (b + 0)), (1, .int x1), (2, .int x2)] → W p l e { frames := 8, cells := 0, slots := 0, locals := 149 } s m args below meth c H locs 0 0 (z_EndT D A b G below args s (some (.int v)) q' u') (F0 m 18 ls []) := by
  have hx := C0.1
  have hb := C0.2.1
  have hs := hT.1
  intro n
  induction n with
  | zero => intro x1 x2 u H locs ls h hW hS hl; cases h
  | succ n ih =>
    intro x1 x2 u H locs ls h hW hS hl
    rw [f_X10_round_18_s] at h
    refine lv_iload_n hx hb dX10_round_18 rfl (lv_at hl 2 rfl) ?_
    refine lv_bipush (v := (64 : Int32)) hx hb dX10_round_19 (by decide) ?_
    refine lv_icmp_gt (tgt := 55) hx hb dX10_round_21 (by decide) (fun hc => ?_) (fun hc => ?_)
    · replace h := z_t h hc
      clear hc
      refine lv_iconst (v := (-1 : Int32)) hx hb dX10_round_55 (by decide) ?_
      cases h
      exact z_iretT C0 hr hlk hW hS hT dX10_round_56
    · replace h := z_f h hc
      clear hc
      refine lv_aload_n hx hb dX10_round_24 rfl (lv_at hl 0 rfl) ?_
      refine z_getr (o := 17) C0 hW fl_X10_32 (zk1 (hs 0 (by decide))) rfl (zk3 (hs 0 (by decide)) 3) dX10_round_25 ?_
      refine lv_iload_n hx hb dX10_round_28 rfl (lv_at hl 1 rfl) ?_
      refine lv_iconst (v := (0 : Int32)) hx hb dX10_round_29 (by decide) ?_
      replace h := z_bd h
      obtain ⟨u6, hq, h⟩ := h
      refine z_cvv (As := [.int x1, .int (bI false)]) C0 hml hl.1 hW hS (c_X9_halt l D A b (zg G q) 17 (q 1) (zT1 hT) x1 false u hq) mv_X10_301 (zT1 hT).1 ⟨Nat.le_of_ble_eq_true rfl, Nat.le_of_ble_eq_true rfl⟩ rfl rfl (Nat.le_of_ble_eq_true rfl) dX10_round_30 (fun H locs hW hS => ?_)
      clear hq
      refine lv_aload_n hx hb dX10_round_33 rfl (lv_at hl 0 rfl) ?_
      refine z_getr (o := 17) C0 hW fl_X10_32 (zk1 (hs 0 (by decide))) rfl (zk3 (hs 0 (by decide)) 3) dX10_round_34 ?_
      refine lv_aload_n hx hb dX10_round_37 rfl (lv_at hl 0 rfl) ?_
      refine z_getr (o := 6) C0 hW fl_X10_28 (zk1 (hs 0 (by decide))) rfl (zk3 (hs 0 (by decide)) 2) dX10_round_38 ?_
      replace h := z_bd h
      obtain ⟨t7, hq, h⟩ := h
      refine z_cvi (As := [.ref (b + 6)]) C0 hml hl.1 hW hS (c_X9_sitsLike l D A b (zg G q) 17 (q 1) 6 (q 0) (zT1 hT) (zT0 hT) u6 hq) mv_X10_414 (zT1 hT).1 ⟨Nat.le_of_ble_eq_true rfl, Nat.le_of_ble_eq_true rfl⟩ rfl rfl (Nat.le_of_ble_eq_true rfl) dX10_round_41 (fun H locs hW hS => ?_)
      clear hq
      refine z_ifeqZ C0 (tgt := 49) dX10_round_44 (by decide) (fun hc => ?_) (fun hc => ?_)
      · replace h := z_ff h hc
        clear hc
        refine lv_iinc (v := x2 + (1 : Int32)) (lv' := [(2, .int (x2 + (1 : Int32))), (0, .ref (b + 0)), (1, .int x1)]) hx hb dX10_round_49 hl (k := 2) rfl rfl (by decide) rfl (fun ls hl => ?_)
        refine lv_goto (tgt := 18) hx hb dX10_round_52 (by decide) ?_
        exact ih _ _ _ _ _ _ h hW hS (lv_sub hl [1, 2, 0] rfl)
      · replace h := z_t h hc
        clear hc
        refine lv_iload_n hx hb dX10_round_47 rfl (lv_at hl 2 rfl) ?_
        cases h
        exact z_iretT C0 hr hlk hW hS hT dX10_round_48
theorem f_X10_round_e (q : zq) (a1 : Int32) (u : zU) : f_X10_round q a1 u = z_bx (f_X10_needDraw (q) a1 u) (fun w1 q3 u2 => z_let (f_X9_copy 17 (q3 1) 6 (q3 0) u2) (fun u4 => z_let (zup q3 1 (q3 0)) (fun q5 => f_X10_round_18 q5 5000 a1 (1 : Int32) u4))) := rfl
set_option maxRecDepth 100000 in
set_option maxHeartbeats 4000000 in
theorem c_X10_round (l : Launch) (D : zD) (A : Nat → Prop) (b : Nat) (G : zG) (q : zq) (hT : zTop G q) (a1 : Int32) (u : zU) {v : Int32} {q' : zq} {u' : zU} (h : f_X10_round q a1 u = some (.inr v, q', u')) : z_MT l D A b G yX10_round cX10_round 3 (some .int) 8 149 [.ref (b + 0), .int a1] q u (some (.int v)) q' u' := by
  refine z_enterT (by decide) (Nat.le_of_ble_eq_true rfl) ?_
  intro p e s m below meth c ls C0 hr hml hlk hW hS hl
  have hl : lv_has ls 3 [(0, .ref (b + 0)), (1, .int a1)] := hl
  have hx := C0.1
  have hb := C0.2.1
  have hs := hT.1
  rw [f_X10_round_e] at h
  refine lv_aload_n hx hb dX10_round_0 rfl (lv_at hl 0 rfl) ?_
  refine lv_iload_n hx hb dX10_round_1 rfl (lv_at hl 1 rfl) ?_
  replace h := z_bxd h
  rcases h with ⟨E1, hq, hE⟩ | ⟨w1, q3, u2, hq, h⟩
  · cases hE
  · refine z_cvTv (As := [.int a1]) C0 hml hl.1 hW hS (c_X10_needDraw l D A b G (q) hT a1 u hq) mv_X10_411 (zk1 (hs 0 (by decide))) ⟨Nat.le_of_ble_eq_true rfl, Nat.le_of_ble_eq_true rfl⟩ rfl rfl (Nat.le_of_ble_eq_true rfl) dX10_round_2 (fun H locs hW hS hT => ?_)
    clear hq
    have hs := hT.1
    refine lv_aload_n hx hb dX10_round_5 rfl (lv_at hl 0 rfl) ?_
    refine z_getr (o := 17) C0 hW fl_X10_32 (zk1 (hs 0 (by decide))) rfl (zk3 (hs 0 (by decide)) 3) dX10_round_6 ?_
    refine lv_aload_n hx hb dX10_round_9 rfl (lv_at hl 0 rfl) ?_
    refine z_getr (o := 6) C0 hW fl_X10_28 (zk1 (hs 0 (by decide))) rfl (zk3 (hs 0 (by decide)) 2) dX10_round_10 ?_
    obtain ⟨u4, hq⟩ : ∃ y, f_X9_copy 17 (q3 1) 6 (q3 0) u2 = y := ⟨_, rfl⟩
    replace h := z_lz h hq
    refine z_cv2v (As := [.ref (b + 6)]) C0 hml hl.1 hW hS (c_X9_copy l D A b (zg G q3) 17 (q3 1) 6 (q3 0) (zT1 hT) (zT0 hT) u2 hq) mv_X10_92 (zT1 hT).1 ⟨Nat.le_of_ble_eq_true rfl, Nat.le_of_ble_eq_true rfl⟩ rfl rfl (Nat.le_of_ble_eq_true rfl) dX10_round_13 (fun H locs hW hS => ?_)
    clear hq
    replace hW : z_W D A b (zg G (zup q3 1 (q3 0))) u4 H := by rw [← zgs_zg G q3 (i := 1) (by decide) (q3 0)]; exact hW
    replace hT := zTop_up (i := 1) hT (j := 0) (by decide)
    obtain ⟨q5, e1⟩ : ∃ y, y = zup q3 1 (q3 0) := ⟨_, rfl⟩
    rw [← e1] at hW hT
    replace h := z_ly h e1
    clear e1
    replace hs := hT.1
    refine lv_iconst (v := (1 : Int32)) hx hb dX10_round_16 (by decide) ?_
    refine lv_istore_n (lv' := [(2, .int (1 : Int32)), (0, .ref (b + 0)), (1, .int a1)]) hx hb dX10_round_17 rfl hl (by decide) rfl (fun ls hl => ?_)
    exact l_X10_round_18 C0 hr hml hlk hT 5000 _ _ _ _ _ _ h hW hS (lv_sub hl [1, 2, 0] rfl)
set_option maxRecDepth 100000 in
set_option maxHeartbeats 4000000 in
theorem lx_X10_round_18 {l : Launch} {D : zD} {A : Nat → Prop} {b : Nat} {p : Program} {e : Env} {s : State} {m : MethodId} {args : Array Value} {below : List Frame} {meth : Method} {c : Code} {G : zG} {q : zq} {E : String} {q' : zq} {u' : zU} (C0 : z_C p c cX10_round s m args yX10_round.cls D A) (hex : ∀ x ∈ c.exceptionTable.toList, False) (hml : c.maxLocals = 3) (hlk : meth.locks = false) (hT : zTop G q) (hst : l.stackTraces = false) : ∀ (n : Nat) (x1 : Int32) (x2 : Int32) (u : zU) (H : Heap) (locs : List Loc) (ls : Array Slot), f_X10_round_18 q n x1 x2 u = some (.inl E, q', u') → z_W D A b (zg G q) u H → va_S A s.heap H locs → lv_has ls 3 [(0, .ref (b + 0)), (1, .int x1), (2, .int x2)] → W p l e { frames := 8, cells := 1, slots := 6, locals := 149 } s m args below meth c H locs 0 0 (z_EndX D A b G below args s E q' u') (F0 m 18 ls []) := by
  have hx := C0.1
  have hb := C0.2.1
  have hs := hT.1
  intro n
  induction n with
  | zero => intro x1 x2 u H locs ls h hW hS hl; cases h
  | succ n ih =>
    intro x1 x2 u H locs ls h hW hS hl
    rw [f_X10_round_18_s] at h
    refine lv_iload_n hx hb dX10_round_18 rfl (lv_at hl 2 rfl) ?_
    refine lv_bipush (v := (64 : Int32)) hx hb dX10_round_19 (by decide) ?_
    refine lv_icmp_gt (tgt := 55) hx hb dX10_round_21 (by decide) (fun hc => ?_) (fun hc => ?_)
    · replace h := z_t h hc
      clear hc
      refine lv_iconst (v := (-1 : Int32)) hx hb dX10_round_55 (by decide) ?_
      cases h
    · replace h := z_f h hc
      clear hc
      refine lv_aload_n hx hb dX10_round_24 rfl (lv_at hl 0 rfl) ?_
      refine z_getr (o := 17) C0 hW fl_X10_32 (zk1 (hs 0 (by decide))) rfl (zk3 (hs 0 (by decide)) 3) dX10_round_25 ?_
      refine lv_iload_n hx hb dX10_round_28 rfl (lv_at hl 1 rfl) ?_
      refine lv_iconst (v := (0 : Int32)) hx hb dX10_round_29 (by decide) ?_
      replace h := z_bd h
      obtain ⟨u6, hq, h⟩ := h
      refine z_cvv (As := [.int x1, .int (bI false)]) C0 hml hl.1 hW hS (c_X9_halt l D A b (zg G q) 17 (q 1) (zT1 hT) x1 false u hq) mv_X10_301 (zT1 hT).1 ⟨Nat.le_of_ble_eq_true rfl, Nat.le_of_ble_eq_true rfl⟩ rfl rfl (Nat.le_of_ble_eq_true rfl) dX10_round_30 (fun H locs hW hS => ?_)
      clear hq
      refine lv_aload_n hx hb dX10_round_33 rfl (lv_at hl 0 rfl) ?_
      refine z_getr (o := 17) C0 hW fl_X10_32 (zk1 (hs 0 (by decide))) rfl (zk3 (hs 0 (by decide)) 3) dX10_round_34 ?_
      refine lv_aload_n hx hb dX10_round_37 rfl (lv_at hl 0 rfl) ?_
      refine z_getr (o := 6) C0 hW fl_X10_28 (zk1 (hs 0 (by decide))) rfl (zk3 (hs 0 (by decide)) 2) dX10_round_38 ?_
      replace h := z_bd h
      obtain ⟨t7, hq, h⟩ := h
      refine z_cvi (As := [.ref (b + 6)]) C0 hml hl.1 hW hS (c_X9_sitsLike l D A b (zg G q) 17 (q 1) 6 (q 0) (zT1 hT) (zT0 hT) u6 hq) mv_X10_414 (zT1 hT).1 ⟨Nat.le_of_ble_eq_true rfl, Nat.le_of_ble_eq_true rfl⟩ rfl rfl (Nat.le_of_ble_eq_true rfl) dX10_round_41 (fun H locs hW hS => ?_)
      clear hq
      refine z_ifeqZ C0 (tgt := 49) dX10_round_44 (by decide) (fun hc => ?_) (fun hc => ?_)
      · replace h := z_ff h hc
        clear hc
        refine lv_iinc (v := x2 + (1 : Int32)) (lv' := [(2, .int (x2 + (1 : Int32))), (0, .ref (b + 0)), (1, .int x1)]) hx hb dX10_round_49 hl (k := 2) rfl rfl (by decide) rfl (fun ls hl => ?_)
        refine lv_goto (tgt := 18) hx hb dX10_round_52 (by decide) ?_
        exact ih _ _ _ _ _ _ h hW hS (lv_sub hl [1, 2, 0] rfl)
      · replace h := z_t h hc
        clear hc
        refine lv_iload_n hx hb dX10_round_47 rfl (lv_at hl 2 rfl) ?_
        cases h
set_option maxRecDepth 100000 in
set_option maxHeartbeats 4000000 in
theorem t_X10_round (l : Launch) (D : zD) (A : Nat → Prop) (b : Nat) (G : zG) (q : zq) (hT : zTop G q) (hst : l.stackTraces = false) (a1 : Int32) (u : zU) {E : String} {q' : zq} {u' : zU} (h : f_X10_round q a1 u = some (.inl E, q', u')) : z_TX l D A b G yX10_round cX10_round 3 (some .int) 8 149 [.ref (b + 0), .int a1] q u E q' u' := by
  refine z_enterX (by decide) (Nat.le_of_ble_eq_true rfl) ?_
  intro p e s m below meth c ls C0 hex hml hlk hW hS hl
  have hl : lv_has ls 3 [(0, .ref (b + 0)), (1, .int a1)] := hl
  have hx := C0.1
  have hb := C0.2.1
  have hs := hT.1
  rw [f_X10_round_e] at h
  refine lv_aload_n hx hb dX10_round_0 rfl (lv_at hl 0 rfl) ?_
  refine lv_iload_n hx hb dX10_round_1 rfl (lv_at hl 1 rfl) ?_
  replace h := z_bxd h
  rcases h with ⟨E1, hq, hE⟩ | ⟨w1, q3, u2, hq, h⟩
  · cases hE
    exact z_cvX (As := [.int a1]) C0 hml hl.1 hW hS hex hlk (t_X10_needDraw l D A b G (q) hT hst a1 u hq) mv_X10_411 (zk1 (hs 0 (by decide))) ⟨Nat.le_of_ble_eq_true rfl, Nat.le_of_ble_eq_true rfl⟩ ⟨Nat.le_of_ble_eq_true rfl, Nat.le_of_ble_eq_true rfl⟩ rfl rfl (Nat.le_of_ble_eq_true rfl) dX10_round_2
  · refine z_cvTv (As := [.int a1]) C0 hml hl.1 hW hS (c_X10_needDraw l D A b G (q) hT a1 u hq) mv_X10_411 (zk1 (hs 0 (by decide))) ⟨Nat.le_of_ble_eq_true rfl, Nat.le_of_ble_eq_true rfl⟩ rfl rfl (Nat.le_of_ble_eq_true rfl) dX10_round_2 (fun H locs hW hS hT => ?_)
    clear hq
    have hs := hT.1
    refine lv_aload_n hx hb dX10_round_5 rfl (lv_at hl 0 rfl) ?_
    refine z_getr (o := 17) C0 hW fl_X10_32 (zk1 (hs 0 (by decide))) rfl (zk3 (hs 0 (by decide)) 3) dX10_round_6 ?_
    refine lv_aload_n hx hb dX10_round_9 rfl (lv_at hl 0 rfl) ?_
    refine z_getr (o := 6) C0 hW fl_X10_28 (zk1 (hs 0 (by decide))) rfl (zk3 (hs 0 (by decide)) 2) dX10_round_10 ?_
    obtain ⟨u4, hq⟩ : ∃ y, f_X9_copy 17 (q3 1) 6 (q3 0) u2 = y := ⟨_, rfl⟩
    replace h := z_lz h hq
    refine z_cv2v (As := [.ref (b + 6)]) C0 hml hl.1 hW hS (c_X9_copy l D A b (zg G q3) 17 (q3 1) 6 (q3 0) (zT1 hT) (zT0 hT) u2 hq) mv_X10_92 (zT1 hT).1 ⟨Nat.le_of_ble_eq_true rfl, Nat.le_of_ble_eq_true rfl⟩ rfl rfl (Nat.le_of_ble_eq_true rfl) dX10_round_13 (fun H locs hW hS => ?_)
    clear hq
    replace hW : z_W D A b (zg G (zup q3 1 (q3 0))) u4 H := by rw [← zgs_zg G q3 (i := 1) (by decide) (q3 0)]; exact hW
    replace hT := zTop_up (i := 1) hT (j := 0) (by decide)
    obtain ⟨q5, e1⟩ : ∃ y, y = zup q3 1 (q3 0) := ⟨_, rfl⟩
    rw [← e1] at hW hT
    replace h := z_ly h e1
    clear e1
    replace hs := hT.1
    refine lv_iconst (v := (1 : Int32)) hx hb dX10_round_16 (by decide) ?_
    refine lv_istore_n (lv' := [(2, .int (1 : Int32)), (0, .ref (b + 0)), (1, .int a1)]) hx hb dX10_round_17 rfl hl (by decide) rfl (fun ls hl => ?_)
    exact lx_X10_round_18 C0 hex hml hlk hT hst 5000 _ _ _ _ _ _ h hW hS (lv_sub hl [1, 2, 0] rfl)
def f_X10_ruin_23 (q : zq) : Nat → Int32 → Int32 → zU → Option ((String ⊕ Int32) × zq × zU)
  | 0, _, _, _ => none
  | n + 1, x3, x4, u =>
    if (u 17 8) ≤ x4 then (some (.inr x3, q, u)) else (if z_in x4 8 = true then (z_let (u 20 (x4).toNatClampNeg) (fun z10 => if z10 = 0 then (z_let (x3 ||| ((1 : Int32) <<< (x4 &&& 31))) (fun z11 => f_X10_ruin_23 q n z11 (x4 + (1 : Int32)) u)) else (f_X10_ruin_23 q n x3 (x4 + (1 : Int32)) u))) else none)
theorem f_X10_ruin_23_s (q : zq) (n : Nat) (x3 : Int32) (x4 : Int32) (u : zU) : f_X10_ruin_23 q (n + 1) x3 x4 u = if (u 17 8) ≤ x4 then (some (.inr x3, q, u)) else (if z_in x4 8 = true then (z_let (u 20 (x4).toNatClampNeg) (fun z10 => if z10 = 0 then (z_let (x3 ||| ((1 : Int32) <<< (x4 &&& 31))) (fun z11 => f_X10_ruin_23 q n z11 (x4 + (1 : Int32)) u)) else (f_X10_ruin_23 q n x3 (x4 + (1 : Int32)) u))) else none) := rfl
def f_X10_ruin (q : zq) (a1 : Int32) (a2 : Int32) (u : zU) : Option ((String ⊕ Int32) × zq × zU) :=
  z_bx (f_X10_needDraw (q) a1 u) (fun w1 q3 u2 => z_bx (f_X10_needNumber (q3) a2 (0 : Int32) (100 : Int32) u2) (fun w4 q6 u5 => z_b3 (f_X10_goAhead (q6) a1 a2 u5) (fun w7 q9 u8 => f_X10_ruin_23 q9 5000 (0 : Int32) (0 : Int32) u8)))
set_option maxRecDepth 100000 in
set_option maxHeartbeats 4000000 in
theorem l_X10_ruin_23 {l : Launch} {D : zD} {A : Nat → Prop} {b : Nat} {p : Program} {e : Env} {s : State} {m : MethodId} {args : Array Value} {below : List Frame} {meth : Method} {c : Code} {G : zG} {q : zq} {v : Int32} {q' : zq} {u' : zU} (C0 : z_C p c cX10_ruin s m args yX10_ruin.cls D A) (hr : meth.sig.returnType = (some .int)) (hml : c.maxLocals = 5) (hlk : meth.locks = false) (hT : zTop G q) : ∀ (n : Nat) (x3 : Int32) (x4 : Int32) (u : zU) (H : Heap) (locs : List Loc) (ls : Array Slot), f_X10_ruin_23 q n x3 x4 u = some (.inr v, q', u') → z_W D A b (zg G q) u H → va_S A s.heap H locs → lv_has ls 5 [(0, .ref (b + 0)), (3, .int x3), (4, .int x4)] → W p l e { frames := 8, cells := 0, slots := 0, locals := 172 } s m args below meth c H locs 0 0 (z_EndT D A b G below args s (some (.int v)) q' u') (F0 m 23 ls []) := by
  have hx := C0.1
  have hb := C0.2.1
  have hs := hT.1
  intro n
  induction n with
  | zero => intro x3 x4 u H locs ls h hW hS hl; cases h
  | succ n ih =>
    intro x3 x4 u H locs ls h hW hS hl
    rw [f_X10_ruin_23_s] at h
    refine lv_iload hx hb dX10_ruin_23 (lv_at hl 2 rfl) ?_
    refine lv_aload_n hx hb dX10_ruin_25 rfl (lv_at hl 0 rfl) ?_
    refine z_getr (o := 17) C0 hW fl_X10_32 (zk1 (hs 0 (by decide))) rfl (zk3 (hs 0 (by decide)) 3) dX10_ruin_26 ?_
    refine z_geti C0 hW fl_X10_221 (zT1 hT).1 rfl dX10_ruin_29 ?_
    refine lv_icmp_ge (tgt := 61) hx hb dX10_ruin_32 (by decide) (fun hc => ?_) (fun hc => ?_)
    · replace h := z_t h hc
      clear hc
      refine lv_iload_n hx hb dX10_ruin_61 rfl (lv_at hl 1 rfl) ?_
      cases h
      exact z_iretT C0 hr hlk hW hS hT dX10_ruin_62
    · replace h := z_f h hc
      clear hc
      refine lv_aload_n hx hb dX10_ruin_35 rfl (lv_at hl 0 rfl) ?_
      refine z_getr (o := 17) C0 hW fl_X10_32 (zk1 (hs 0 (by decide))) rfl (zk3 (hs 0 (by decide)) 3) dX10_ruin_36 ?_
      refine z_getr (o := 20) C0 hW fl_X10_146 (zT1 hT).1 rfl ((zT1 hT).2.1 2 (by decide)).1 dX10_ruin_39 ?_
      refine lv_iload hx hb dX10_ruin_42 (lv_at hl 2 rfl) ?_
      replace h := z_if h
      obtain ⟨hin, h⟩ := h
      refine z_iald (n := 8) C0 hW ((zT1 hT).2.1 2 (by decide)).2.1 ((zT1 hT).2.1 2 (by decide)).2.2 hin rfl dX10_ruin_44 ?_
      clear hin
      refine lv_topi (fun z10 e1 => ?_)
      replace h := z_ly h e1
      clear e1
      refine lv_if_ne (tgt := 55) hx hb dX10_ruin_45 (by decide) (fun hc => ?_) (fun hc => ?_)
      · replace h := z_f h hc
        clear hc
        refine lv_iinc (v := x4 + (1 : Int32)) (lv' := [(4, .int (x4 + (1 : Int32))), (0, .ref (b + 0)), (3, .int x3)]) hx hb dX10_ruin_55 hl (k := 2) rfl rfl (by decide) rfl (fun ls hl => ?_)
        refine lv_goto (tgt := 23) hx hb dX10_ruin_58 (by decide) ?_
        exact ih _ _ _ _ _ _ h hW hS (lv_sub hl [1, 2, 0] rfl)
      · replace h := z_t h hc
        clear hc
        refine lv_iload_n hx hb dX10_ruin_48 rfl (lv_at hl 1 rfl) ?_
        refine lv_iconst (v := (1 : Int32)) hx hb dX10_ruin_49 (by decide) ?_
        refine lv_iload hx hb dX10_ruin_50 (lv_at hl 2 rfl) ?_
        refine lv_ishl hx hb dX10_ruin_52 ?_
        refine lv_ior hx hb dX10_ruin_53 ?_
        refine lv_topi (fun z11 e1 => ?_)
        replace h := z_ly h e1
        clear e1
        refine lv_istore_n (lv' := [(3, .int z11), (0, .ref (b + 0)), (4, .int x4)]) hx hb dX10_ruin_54 rfl hl (by decide) rfl (fun ls hl => ?_)
        refine lv_iinc (v := x4 + (1 : Int32)) (lv' := [(4, .int (x4 + (1 : Int32))), (3, .int z11), (0, .ref (b + 0))]) hx hb dX10_ruin_55 hl (k := 2) rfl rfl (by decide) rfl (fun ls hl => ?_)
        refine lv_goto (tgt := 23) hx hb dX10_ruin_58 (by decide) ?_
        exact ih _ _ _ _ _ _ h hW hS (lv_sub hl [2, 1, 0] rfl)
theorem f_X10_ruin_e (q : zq) (a1 : Int32) (a2 : Int32) (u : zU) : f_X10_ruin q a1 a2 u = z_bx (f_X10_needDraw (q) a1 u) (fun w1 q3 u2 => z_bx (f_X10_needNumber (q3) a2 (0 : Int32) (100 : Int32) u2) (fun w4 q6 u5 => z_b3 (f_X10_goAhead (q6) a1 a2 u5) (fun w7 q9 u8 => f_X10_ruin_23 q9 5000 (0 : Int32) (0 : Int32) u8))) := rfl
set_option maxRecDepth 100000 in
set_option maxHeartbeats 4000000 in
theorem c_X10_ruin (l : Launch) (D : zD) (A : Nat → Prop) (b : Nat) (G : zG) (q : zq) (hT : zTop G q) (a1 : Int32) (a2 : Int32) (u : zU) {v : Int32} {q' : zq} {u' : zU} (h : f_X10_ruin q a1 a2 u = some (.inr v, q', u')) : z_MT l D A b G yX10_ruin cX10_ruin 5 (some .int) 8 172 [.ref (b + 0), .int a1, .int a2] q u (some (.int v)) q' u' := by
  refine z_enterT (by decide) (Nat.le_of_ble_eq_true rfl) ?_
  intro p e s m below meth c ls C0 hr hml hlk hW hS hl
  have hl : lv_has ls 5 [(0, .ref (b + 0)), (1, .int a1), (2, .int a2)] := hl
  have hx := C0.1
  have hb := C0.2.1
  have hs := hT.1
  rw [f_X10_ruin_e] at h
  refine lv_aload_n hx hb dX10_ruin_0 rfl (lv_at hl 0 rfl) ?_
  refine lv_iload_n hx hb dX10_ruin_1 rfl (lv_at hl 1 rfl) ?_
  replace h := z_bxd h
  rcases h with ⟨E1, hq, hE⟩ | ⟨w1, q3, u2, hq, h⟩
  · cases hE
  · refine z_cvTv (As := [.int a1]) C0 hml hl.1 hW hS (c_X10_needDraw l D A b G (q) hT a1 u hq) mv_X10_411 (zk1 (hs 0 (by decide))) ⟨Nat.le_of_ble_eq_true rfl, Nat.le_of_ble_eq_true rfl⟩ rfl rfl (Nat.le_of_ble_eq_true rfl) dX10_ruin_2 (fun H locs hW hS hT => ?_)
    clear hq
    have hs := hT.1
    refine lv_iload_n hx hb dX10_ruin_5 rfl (lv_at hl 2 rfl) ?_
    refine lv_iconst (v := (0 : Int32)) hx hb dX10_ruin_6 (by decide) ?_
    refine lv_bipush (v := (100 : Int32)) hx hb dX10_ruin_7 (by decide) ?_
    replace h := z_bxd h
    rcases h with ⟨E1, hq, hE⟩ | ⟨w4, q6, u5, hq, h⟩
    · cases hE
    · refine z_csTv (As := [.int a2, .int (0 : Int32), .int (100 : Int32)]) C0 hml hl.1 hW hS (c_X10_needNumber l D A b G (q3) hT a2 (0 : Int32) (100 : Int32) u2 hq) ms_X10_287 ⟨Nat.le_of_ble_eq_true rfl, Nat.le_of_ble_eq_true rfl⟩ rfl rfl (Nat.le_of_ble_eq_true rfl) dX10_ruin_9 (fun H locs hW hS hT => ?_)
      clear hq
      have hs := hT.1
      refine lv_aload_n hx hb dX10_ruin_12 rfl (lv_at hl 0 rfl) ?_
      refine lv_iload_n hx hb dX10_ruin_13 rfl (lv_at hl 1 rfl) ?_
      refine lv_iload_n hx hb dX10_ruin_14 rfl (lv_at hl 2 rfl) ?_
      replace h := z_bd3 h
      obtain ⟨w7, q9, u8, hq, h⟩ := h
      refine z_cvTv (As := [.int a1, .int a2]) C0 hml hl.1 hW hS (c_X10_goAhead l D A b G (q6) hT a1 a2 u5 hq) mv_X10_418 (zk1 (hs 0 (by decide))) ⟨Nat.le_of_ble_eq_true rfl, Nat.le_of_ble_eq_true rfl⟩ rfl rfl (Nat.le_of_ble_eq_true rfl) dX10_ruin_15 (fun H locs hW hS hT => ?_)
      clear hq
      have hs := hT.1
      refine lv_iconst (v := (0 : Int32)) hx hb dX10_ruin_18 (by decide) ?_
      refine lv_istore_n (lv' := [(3, .int (0 : Int32)), (0, .ref (b + 0)), (1, .int a1), (2, .int a2)]) hx hb dX10_ruin_19 rfl hl (by decide) rfl (fun ls hl => ?_)
      refine lv_iconst (v := (0 : Int32)) hx hb dX10_ruin_20 (by decide) ?_
      refine lv_istore (lv' := [(4, .int (0 : Int32)), (3, .int (0 : Int32)), (0, .ref (b + 0)), (1, .int a1), (2, .int a2)]) hx hb dX10_ruin_21 hl (by decide) rfl (fun ls hl => ?_)
      exact l_X10_ruin_23 C0 hr hml hlk hT 5000 _ _ _ _ _ _ h hW hS (lv_sub hl [2, 1, 0] rfl)
set_option maxRecDepth 100000 in
set_option maxHeartbeats 4000000 in
theorem lx_X10_ruin_23 {l : Launch} {D : zD} {A : Nat → Prop} {b : Nat} {p : Program} {e : Env} {s : State} {m : MethodId} {args : Array Value} {below : List Frame} {meth : Method} {c : Code} {G : zG} {q : zq} {E : String} {q' : zq} {u' : zU} (C0 : z_C p c cX10_ruin s m args yX10_ruin.cls D A) (hex : ∀ x ∈ c.exceptionTable.toList, False) (hml : c.maxLocals = 5) (hlk : meth.locks = false) (hT : zTop G q) (hst : l.stackTraces = false) : ∀ (n : Nat) (x3 : Int32) (x4 : Int32) (u : zU) (H : Heap) (locs : List Loc) (ls : Array Slot), f_X10_ruin_23 q n x3 x4 u = some (.inl E, q', u') → z_W D A b (zg G q) u H → va_S A s.heap H locs → lv_has ls 5 [(0, .ref (b + 0)), (3, .int x3), (4, .int x4)] → W p l e { frames := 8, cells := 1, slots := 6, locals := 172 } s m args below meth c H locs 0 0 (z_EndX D A b G below args s E q' u') (F0 m 23 ls []) := by
  have hx := C0.1
  have hb := C0.2.1
  have hs := hT.1
  intro n
  induction n with
  | zero => intro x3 x4 u H locs ls h hW hS hl; cases h
  | succ n ih =>
    intro x3 x4 u H locs ls h hW hS hl
    rw [f_X10_ruin_23_s] at h
    refine lv_iload hx hb dX10_ruin_23 (lv_at hl 2 rfl) ?_
    refine lv_aload_n hx hb dX10_ruin_25 rfl (lv_at hl 0 rfl) ?_
    refine z_getr (o := 17) C0 hW fl_X10_32 (zk1 (hs 0 (by decide))) rfl (zk3 (hs 0 (by decide)) 3) dX10_ruin_26 ?_
    refine z_geti C0 hW fl_X10_221 (zT1 hT).1 rfl dX10_ruin_29 ?_
    refine lv_icmp_ge (tgt := 61) hx hb dX10_ruin_32 (by decide) (fun hc => ?_) (fun hc => ?_)
    · replace h := z_t h hc
      clear hc
      refine lv_iload_n hx hb dX10_ruin_61 rfl (lv_at hl 1 rfl) ?_
      cases h
    · replace h := z_f h hc
      clear hc
      refine lv_aload_n hx hb dX10_ruin_35 rfl (lv_at hl 0 rfl) ?_
      refine z_getr (o := 17) C0 hW fl_X10_32 (zk1 (hs 0 (by decide))) rfl (zk3 (hs 0 (by decide)) 3) dX10_ruin_36 ?_
      refine z_getr (o := 20) C0 hW fl_X10_146 (zT1 hT).1 rfl ((zT1 hT).2.1 2 (by decide)).1 dX10_ruin_39 ?_
      refine lv_iload hx hb dX10_ruin_42 (lv_at hl 2 rfl) ?_
      replace h := z_if h
      obtain ⟨hin, h⟩ := h
      refine z_iald (n := 8) C0 hW ((zT1 hT).2.1 2 (by decide)).2.1 ((zT1 hT).2.1 2 (by decide)).2.2 hin rfl dX10_ruin_44 ?_
      clear hin
      refine lv_topi (fun z10 e1 => ?_)
      replace h := z_ly h e1
      clear e1
      refine lv_if_ne (tgt := 55) hx hb dX10_ruin_45 (by decide) (fun hc => ?_) (fun hc => ?_)
      · replace h := z_f h hc
        clear hc
        refine lv_iinc (v := x4 + (1 : Int32)) (lv' := [(4, .int (x4 + (1 : Int32))), (0, .ref (b + 0)), (3, .int x3)]) hx hb dX10_ruin_55 hl (k := 2) rfl rfl (by decide) rfl (fun ls hl => ?_)
        refine lv_goto (tgt := 23) hx hb dX10_ruin_58 (by decide) ?_
        exact ih _ _ _ _ _ _ h hW hS (lv_sub hl [1, 2, 0] rfl)
      · replace h := z_t h hc
        clear hc
        refine lv_iload_n hx hb dX10_ruin_48 rfl (lv_at hl 1 rfl) ?_
        refine lv_iconst (v := (1 : Int32)) hx hb dX10_ruin_49 (by decide) ?_
        refine lv_iload hx hb dX10_ruin_50 (lv_at hl 2 rfl) ?_
        refine lv_ishl hx hb dX10_ruin_52 ?_
        refine lv_ior hx hb dX10_ruin_53 ?_
        refine lv_topi (fun z11 e1 => ?_)
        replace h := z_ly h e1
        clear e1
        refine lv_istore_n (lv' := [(3, .int z11), (0, .ref (b + 0)), (4, .int x4)]) hx hb dX10_ruin_54 rfl hl (by decide) rfl (fun ls hl => ?_)
        refine lv_iinc (v := x4 + (1 : Int32)) (lv' := [(4, .int (x4 + (1 : Int32))), (3, .int z11), (0, .ref (b + 0))]) hx hb dX10_ruin_55 hl (k := 2) rfl rfl (by decide) rfl (fun ls hl => ?_)
        refine lv_goto (tgt := 23) hx hb dX10_ruin_58 (by decide) ?_
        exact ih _ _ _ _ _ _ h hW hS (lv_sub hl [2, 1, 0] rfl)
set_option maxRecDepth 100000 in
set_option maxHeartbeats 4000000 in
theorem t_X10_ruin (l : Launch) (D : zD) (A : Nat → Prop) (b : Nat) (G : zG) (q : zq) (hT : zTop G q) (hst : l.stackTraces = false) (a1 : Int32) (a2 : Int32) (u : zU) {E : String} {q' : zq} {u' : zU} (h : f_X10_ruin q a1 a2 u = some (.inl E, q', u')) : z_TX l D A b G yX10_ruin cX10_ruin 5 (some .int) 8 172 [.ref (b + 0), .int a1, .int a2] q u E q' u' := by
  refine z_enterX (by decide) (Nat.le_of_ble_eq_true rfl) ?_
  intro p e s m below meth c ls C0 hex hml hlk hW hS hl
  have hl : lv_has ls 5 [(0, .ref (b + 0)), (1, .int a1), (2, .int a2)] := hl
  have hx := C0.1
  have hb := C0.2.1
  have hs := hT.1
  rw [f_X10_ruin_e] at h
  refine lv_aload_n hx hb dX10_ruin_0 rfl (lv_at hl 0 rfl) ?_
  refine lv_iload_n hx hb dX10_ruin_1 rfl (lv_at hl 1 rfl) ?_
  replace h := z_bxd h
  rcases h with ⟨E1, hq, hE⟩ | ⟨w1, q3, u2, hq, h⟩
  · cases hE
    exact z_cvX (As := [.int a1]) C0 hml hl.1 hW hS hex hlk (t_X10_needDraw l D A b G (q) hT hst a1 u hq) mv_X10_411 (zk1 (hs 0 (by decide))) ⟨Nat.le_of_ble_eq_true rfl, Nat.le_of_ble_eq_true rfl⟩ ⟨Nat.le_of_ble_eq_true rfl, Nat.le_of_ble_eq_true rfl⟩ rfl rfl (Nat.le_of_ble_eq_true rfl) dX10_ruin_2
  · refine z_cvTv (As := [.int a1]) C0 hml hl.1 hW hS (c_X10_needDraw l D A b G (q) hT a1 u hq) mv_X10_411 (zk1 (hs 0 (by decide))) ⟨Nat.le_of_ble_eq_true rfl, Nat.le_of_ble_eq_true rfl⟩ rfl rfl (Nat.le_of_ble_eq_true rfl) dX10_ruin_2 (fun H locs hW hS hT => ?_)
    clear hq
    have hs := hT.1
    refine lv_iload_n hx hb dX10_ruin_5 rfl (lv_at hl 2 rfl) ?_
    refine lv_iconst (v := (0 : Int32)) hx hb dX10_ruin_6 (by decide) ?_
    refine lv_bipush (v := (100 : Int32)) hx hb dX10_ruin_7 (by decide) ?_
    replace h := z_bxd h
    rcases h with ⟨E1, hq, hE⟩ | ⟨w4, q6, u5, hq, h⟩
    · cases hE
      exact z_csX (As := [.int a2, .int (0 : Int32), .int (100 : Int32)]) C0 hml hl.1 hW hS hex hlk (t_X10_needNumber l D A b G (q3) hT hst a2 (0 : Int32) (100 : Int32) u2 hq) ms_X10_287 ⟨Nat.le_of_ble_eq_true rfl, Nat.le_of_ble_eq_true rfl⟩ ⟨Nat.le_of_ble_eq_true rfl, Nat.le_of_ble_eq_true rfl⟩ rfl rfl (Nat.le_of_ble_eq_true rfl) dX10_ruin_9
    · refine z_csTv (As := [.int a2, .int (0 : Int32), .int (100 : Int32)]) C0 hml hl.1 hW hS (c_X10_needNumber l D A b G (q3) hT a2 (0 : Int32) (100 : Int32) u2 hq) ms_X10_287 ⟨Nat.le_of_ble_eq_true rfl, Nat.le_of_ble_eq_true rfl⟩ rfl rfl (Nat.le_of_ble_eq_true rfl) dX10_ruin_9 (fun H locs hW hS hT => ?_)
      clear hq
      have hs := hT.1
      refine lv_aload_n hx hb dX10_ruin_12 rfl (lv_at hl 0 rfl) ?_
      refine lv_iload_n hx hb dX10_ruin_13 rfl (lv_at hl 1 rfl) ?_
      refine lv_iload_n hx hb dX10_ruin_14 rfl (lv_at hl 2 rfl) ?_
      replace h := z_bd3 h
      obtain ⟨w7, q9, u8, hq, h⟩ := h
      refine z_cvTv (As := [.int a1, .int a2]) C0 hml hl.1 hW hS (c_X10_goAhead l D A b G (q6) hT a1 a2 u5 hq) mv_X10_418 (zk1 (hs 0 (by decide))) ⟨Nat.le_of_ble_eq_true rfl, Nat.le_of_ble_eq_true rfl⟩ rfl rfl (Nat.le_of_ble_eq_true rfl) dX10_ruin_15 (fun H locs hW hS hT => ?_)
      clear hq
      have hs := hT.1
      refine lv_iconst (v := (0 : Int32)) hx hb dX10_ruin_18 (by decide) ?_
      refine lv_istore_n (lv' := [(3, .int (0 : Int32)), (0, .ref (b + 0)), (1, .int a1), (2, .int a2)]) hx hb dX10_ruin_19 rfl hl (by decide) rfl (fun ls hl => ?_)
      refine lv_iconst (v := (0 : Int32)) hx hb dX10_ruin_20 (by decide) ?_
      refine lv_istore (lv' := [(4, .int (0 : Int32)), (3, .int (0 : Int32)), (0, .ref (b + 0)), (1, .int a1), (2, .int a2)]) hx hb dX10_ruin_21 hl (by decide) rfl (fun ls hl => ?_)
      exact lx_X10_ruin_23 C0 hex hml hlk hT hst 5000 _ _ _ _ _ _ h hW hS (lv_sub hl [2, 1, 0] rfl)
def f_X10_ahead (q : zq) (a1 : Int32) (a2 : Int32) (a3 : Int32) (u : zU) : Option ((String ⊕ Int32) × zq × zU) :=
  z_bx (f_X10_needDraw (q) a1 u) (fun w1 q3 u2 => z_bx (f_X10_needNumber (q3) a2 (0 : Int32) (100 : Int32) u2) (fun w4 q6 u5 => if a3 < 0 then (some (.inl "java/util/NoSuchElementException", q6, u5)) else (if a3 ≤ (2 : Int32) then (z_b3 (f_X10_goAhead (q6) a1 a2 u5) (fun w7 q9 u8 => if a3 = 0 then (some (.inr (u8 17 14), q9, u8)) else (if a3 = (1 : Int32) then ((f_X9_firstIn 17 (q9 1) (u8 17 14) u8).bind (fun r10 => some (.inr r10, q9, u8))) else (some (.inr (u8 17 11), q9, u8))))) else (some (.inl "java/util/NoSuchElementException", q6, u5)))))
theorem f_X10_ahead_e (q : zq) (a1 : Int32) (a2 : Int32) (a3 : Int32) (u : zU) : f_X10_ahead q a1 a2 a3 u = z_bx (f_X10_needDraw (q) a1 u) (fun w1 q3 u2 => z_bx (f_X10_needNumber (q3) a2 (0 : Int32) (100 : Int32) u2) (fun w4 q6 u5 => if a3 < 0 then (some (.inl "java/util/NoSuchElementException", q6, u5)) else (if a3 ≤ (2 : Int32) then (z_b3 (f_X10_goAhead (q6) a1 a2 u5) (fun w7 q9 u8 => if a3 = 0 then (some (.inr (u8 17 14), q9, u8)) else (if a3 = (1 : Int32) then ((f_X9_firstIn 17 (q9 1) (u8 17 14) u8).bind (fun r10 => some (.inr r10, q9, u8))) else (some (.inr (u8 17 11), q9, u8))))) else (some (.inl "java/util/NoSuchElementException", q6, u5))))) := rfl
set_option maxRecDepth 100000 in
set_option maxHeartbeats 4000000 in
theorem c_X10_ahead (l : Launch) (D : zD) (A : Nat → Prop) (b : Nat) (G : zG) (q : zq) (hT : zTop G q) (a1 : Int32) (a2 : Int32) (a3 : Int32) (u : zU) {v : Int32} {q' : zq} {u' : zU} (h : f_X10_ahead q a1 a2 a3 u = some (.inr v, q', u')) : z_MT l D A b G yX10_ahead cX10_ahead 4 (some .int) 8 172 [.ref (b + 0), .int a1, .int a2, .int a3] q u (some (.int v)) q' u' := by
  refine z_enterT (by decide) (Nat.le_of_ble_eq_true rfl) ?_
  intro p e s m below meth c ls C0 hr hml hlk hW hS hl
  have hl : lv_has ls 4 [(0, .ref (b + 0)), (1, .int a1), (2, .int a2), (3, .int a3)] := hl
  have hx := C0.1
  have hb := C0.2.1
  have hs := hT.1
  rw [f_X10_ahead_e] at h
  refine lv_aload_n hx hb dX10_ahead_0 rfl (lv_at hl 0 rfl) ?_
  refine lv_iload_n hx hb dX10_ahead_1 rfl (lv_at hl 1 rfl) ?_
  replace h := z_bxd h
  rcases h with ⟨E1, hq, hE⟩ | ⟨w1, q3, u2, hq, h⟩
  · cases hE
  · refine z_cvTv (As := [.int a1]) C0 hml hl.1 hW hS (c_X10_needDraw l D A b G (q) hT a1 u hq) mv_X10_411 (zk1 (hs 0 (by decide))) ⟨Nat.le_of_ble_eq_true rfl, Nat.le_of_ble_eq_true rfl⟩ rfl rfl (Nat.le_of_ble_eq_true rfl) dX10_ahead_2 (fun H locs hW hS hT => ?_)
    clear hq
    have hs := hT.1
    refine lv_iload_n hx hb dX10_ahead_5 rfl (lv_at hl 2 rfl) ?_
    refine lv_iconst (v := (0 : Int32)) hx hb dX10_ahead_6 (by decide) ?_
    refine lv_bipush (v := (100 : Int32)) hx hb dX10_ahead_7 (by decide) ?_
    replace h := z_bxd h
    rcases h with ⟨E1, hq, hE⟩ | ⟨w4, q6, u5, hq, h⟩
    · cases hE
    · refine z_csTv (As := [.int a2, .int (0 : Int32), .int (100 : Int32)]) C0 hml hl.1 hW hS (c_X10_needNumber l D A b G (q3) hT a2 (0 : Int32) (100 : Int32) u2 hq) ms_X10_287 ⟨Nat.le_of_ble_eq_true rfl, Nat.le_of_ble_eq_true rfl⟩ rfl rfl (Nat.le_of_ble_eq_true rfl) dX10_ahead_9 (fun H locs hW hS hT => ?_)
      clear hq
      have hs := hT.1
      refine lv_iload_n hx hb dX10_ahead_12 rfl (lv_at hl 3 rfl) ?_
      refine lv_if_lt (tgt := 21) hx hb dX10_ahead_13 (by decide) (fun hc => ?_) (fun hc => ?_)
      · replace h := z_t h hc
        clear hc
        cases h
      · replace h := z_f h hc
        clear hc
        refine lv_iload_n hx hb dX10_ahead_16 rfl (lv_at hl 3 rfl) ?_
        refine lv_iconst (v := (2 : Int32)) hx hb dX10_ahead_17 (by decide) ?_
        refine lv_icmp_le (tgt := 32) hx hb dX10_ahead_18 (by decide) (fun hc => ?_) (fun hc => ?_)
        · replace h := z_t h hc
          clear hc
          refine lv_aload_n hx hb dX10_ahead_32 rfl (lv_at hl 0 rfl) ?_
          refine lv_iload_n hx hb dX10_ahead_33 rfl (lv_at hl 1 rfl) ?_
          refine lv_iload_n hx hb dX10_ahead_34 rfl (lv_at hl 2 rfl) ?_
          replace h := z_bd3 h
          obtain ⟨w7, q9, u8, hq, h⟩ := h
          refine z_cvTv (As := [.int a1, .int a2]) C0 hml hl.1 hW hS (c_X10_goAhead l D A b G (q6) hT a1 a2 u5 hq) mv_X10_418 (zk1 (hs 0 (by decide))) ⟨Nat.le_of_ble_eq_true rfl, Nat.le_of_ble_eq_true rfl⟩ rfl rfl (Nat.le_of_ble_eq_true rfl) dX10_ahead_35 (fun H locs hW hS hT => ?_)
          clear hq
          have hs := hT.1
          refine lv_iload_n hx hb dX10_ahead_38 rfl (lv_at hl 3 rfl) ?_
          refine lv_if_ne (tgt := 50) hx hb dX10_ahead_39 (by decide) (fun hc => ?_) (fun hc => ?_)
          · replace h := z_f h hc
            clear hc
            refine lv_iload_n hx hb dX10_ahead_50 rfl (lv_at hl 3 rfl) ?_
            refine lv_iconst (v := (1 : Int32)) hx hb dX10_ahead_51 (by decide) ?_
            refine lv_icmp_ne (tgt := 72) hx hb dX10_ahead_52 (by decide) (fun hc => ?_) (fun hc => ?_)
            · replace h := z_f h hc
              clear hc
              refine lv_aload_n hx hb dX10_ahead_72 rfl (lv_at hl 0 rfl) ?_
              refine z_getr (o := 17) C0 hW fl_X10_32 (zk1 (hs 0 (by decide))) rfl (zk3 (hs 0 (by decide)) 3) dX10_ahead_73 ?_
              refine z_geti C0 hW fl_X10_239 (zT1 hT).1 rfl dX10_ahead_76 ?_
              cases h
              exact z_iretT C0 hr hlk hW hS hT dX10_ahead_79
            · replace h := z_t h hc
              clear hc
              refine lv_aload_n hx hb dX10_ahead_55 rfl (lv_at hl 0 rfl) ?_
              refine z_getr (o := 17) C0 hW fl_X10_32 (zk1 (hs 0 (by decide))) rfl (zk3 (hs 0 (by decide)) 3) dX10_ahead_56 ?_
              refine lv_aload_n hx hb dX10_ahead_59 rfl (lv_at hl 0 rfl) ?_
              refine z_getr (o := 17) C0 hW fl_X10_32 (zk1 (hs 0 (by decide))) rfl (zk3 (hs 0 (by decide)) 3) dX10_ahead_60 ?_
              refine z_geti C0 hW fl_X10_211 (zT1 hT).1 rfl dX10_ahead_63 ?_
              replace h := z_bd h
              obtain ⟨r10, hq, h⟩ := h
              refine z_cvi (As := [.int (u8 17 14)]) C0 hml hl.1 hW hS (c_X9_firstIn l D A b (zg G q9) 17 (q9 1) (zT1 hT) (u8 17 14) u8 hq) mv_X10_214 (zT1 hT).1 ⟨Nat.le_of_ble_eq_true rfl, Nat.le_of_ble_eq_true rfl⟩ rfl rfl (Nat.le_of_ble_eq_true rfl) dX10_ahead_66 (fun H locs hW hS => ?_)
              clear hq
              refine lv_goto (tgt := 79) hx hb dX10_ahead_69 (by decide) ?_
              cases h
              exact z_iretT C0 hr hlk hW hS hT dX10_ahead_79
          · replace h := z_t h hc
            clear hc
            refine lv_aload_n hx hb dX10_ahead_42 rfl (lv_at hl 0 rfl) ?_
            refine z_getr (o := 17) C0 hW fl_X10_32 (zk1 (hs 0 (by decide))) rfl (zk3 (hs 0 (by decide)) 3) dX10_ahead_43 ?_
            refine z_geti C0 hW fl_X10_211 (zT1 hT).1 rfl dX10_ahead_46 ?_
            cases h
            exact z_iretT C0 hr hlk hW hS hT dX10_ahead_49
        · replace h := z_f h hc
          clear hc
          cases h
def f_X10_trial (q : zq) (a1 : Int32) (a2 : Bool) (u : zU) : Option ((String ⊕ Int32) × zq × zU) :=
  z_bx (f_X10_needNumber (q) a1 (0 : Int32) (60 : Int32) u) (fun w1 q3 u2 => z_b3 (f_X10_tryStops (q3) a1 (u2 6 16) u2) (fun w4 q6 u5 => if a2 = true then (some (.inr (u5 17 9), q6, u5)) else (some (.inr (u5 17 11), q6, u5))))
theorem f_X10_trial_e (q : zq) (a1 : Int32) (a2 : Bool) (u : zU) : f_X10_trial q a1 a2 u = z_bx (f_X10_needNumber (q) a1 (0 : Int32) (60 : Int32) u) (fun w1 q3 u2 => z_b3 (f_X10_tryStops (q3) a1 (u2 6 16) u2) (fun w4 q6 u5 => if a2 = true then (some (.inr (u5 17 9), q6, u5)) else (some (.inr (u5 17 11), q6, u5)))) := rfl
set_option maxRecDepth 100000 in
set_option maxHeartbeats 4000000 in
theorem c_X10_trial (l : Launch) (D : zD) (A : Nat → Prop) (b : Nat) (G : zG) (q : zq) (hT : zTop G q) (a1 : Int32) (a2 : Bool) (u : zU) {v : Int32} {q' : zq} {u' : zU} (h : f_X10_trial q a1 a2 u = some (.inr v, q', u')) : z_MT l D A b G yX10_trial cX10_trial 3 (some .int) 7 172 [.ref (b + 0), .int a1, .int (bI a2)] q u (some (.int v)) q' u' := by
  refine z_enterT (by decide) (Nat.le_of_ble_eq_true rfl) ?_
  intro p e s m below meth c ls C0 hr hml hlk hW hS hl
  have hl : lv_has ls 3 [(0, .ref (b + 0)), (1, .int a1), (2, .int (bI a2))] := hl
  have hx := C0.1
  have hb := C0.2.1
  have hs := hT.1
  rw [f_X10_trial_e] at h
  refine lv_iload_n hx hb dX10_trial_0 rfl (lv_at hl 1 rfl) ?_
  refine lv_iconst (v := (0 : Int32)) hx hb dX10_trial_1 (by decide) ?_
  refine lv_bipush (v := (60 : Int32)) hx hb dX10_trial_2 (by decide) ?_
  replace h := z_bxd h
  rcases h with ⟨E1, hq, hE⟩ | ⟨w1, q3, u2, hq, h⟩
  · cases hE
  · refine z_csTv (As := [.int a1, .int (0 : Int32), .int (60 : Int32)]) C0 hml hl.1 hW hS (c_X10_needNumber l D A b G (q) hT a1 (0 : Int32) (60 : Int32) u hq) ms_X10_287 ⟨Nat.le_of_ble_eq_true rfl, Nat.le_of_ble_eq_true rfl⟩ rfl rfl (Nat.le_of_ble_eq_true rfl) dX10_trial_4 (fun H locs hW hS hT => ?_)
    clear hq
    have hs := hT.1
    refine lv_aload_n hx hb dX10_trial_7 rfl (lv_at hl 0 rfl) ?_
    refine lv_iload_n hx hb dX10_trial_8 rfl (lv_at hl 1 rfl) ?_
    refine lv_aload_n hx hb dX10_trial_9 rfl (lv_at hl 0 rfl) ?_
    refine z_getr (o := 6) C0 hW fl_X10_28 (zk1 (hs 0 (by decide))) rfl (zk3 (hs 0 (by decide)) 2) dX10_trial_10 ?_
    refine z_geti C0 hW fl_X10_314 (zT0 hT).1 rfl dX10_trial_13 ?_
    replace h := z_bd3 h
    obtain ⟨w4, q6, u5, hq, h⟩ := h
    refine z_cvTv (As := [.int a1, .int (u2 6 16)]) C0 hml hl.1 hW hS (c_X10_tryStops l D A b G (q3) hT a1 (u2 6 16) u2 hq) mv_X10_423 (zk1 (hs 0 (by decide))) ⟨Nat.le_of_ble_eq_true rfl, Nat.le_of_ble_eq_true rfl⟩ rfl rfl (Nat.le_of_ble_eq_true rfl) dX10_trial_16 (fun H locs hW hS hT => ?_)
    clear hq
    have hs := hT.1
    refine lv_iload_n hx hb dX10_trial_19 rfl (lv_at hl 2 rfl) ?_
    refine z_ifeqZ C0 (tgt := 33) dX10_trial_20 (by decide) (fun hc => ?_) (fun hc => ?_)
    · replace h := z_ff h hc
      clear hc
      refine lv_aload_n hx hb dX10_trial_33 rfl (lv_at hl 0 rfl) ?_
      refine z_getr (o := 17) C0 hW fl_X10_32 (zk1 (hs 0 (by decide))) rfl (zk3 (hs 0 (by decide)) 3) dX10_trial_34 ?_
      refine z_geti C0 hW fl_X10_239 (zT1 hT).1 rfl dX10_trial_37 ?_
      cases h
      exact z_iretT C0 hr hlk hW hS hT dX10_trial_40
    · replace h := z_t h hc
      clear hc
      refine lv_aload_n hx hb dX10_trial_23 rfl (lv_at hl 0 rfl) ?_
      refine z_getr (o := 17) C0 hW fl_X10_32 (zk1 (hs 0 (by decide))) rfl (zk3 (hs 0 (by decide)) 3) dX10_trial_24 ?_
      refine z_geti C0 hW fl_X10_248 (zT1 hT).1 rfl dX10_trial_27 ?_
      refine lv_goto (tgt := 40) hx hb dX10_trial_30 (by decide) ?_
      cases h
      exact z_iretT C0 hr hlk hW hS hT dX10_trial_40
set_option maxRecDepth 100000 in
set_option maxHeartbeats 4000000 in
theorem t_X10_trial (l : Launch) (D : zD) (A : Nat → Prop) (b : Nat) (G : zG) (q : zq) (hT : zTop G q) (hst : l.stackTraces = false) (a1 : Int32) (a2 : Bool) (u : zU) {E : String} {q' : zq} {u' : zU} (h : f_X10_trial q a1 a2 u = some (.inl E, q', u')) : z_TX l D A b G yX10_trial cX10_trial 3 (some .int) 7 172 [.ref (b + 0), .int a1, .int (bI a2)] q u E q' u' := by
  refine z_enterX (by decide) (Nat.le_of_ble_eq_true rfl) ?_
  intro p e s m below meth c ls C0 hex hml hlk hW hS hl
  have hl : lv_has ls 3 [(0, .ref (b + 0)), (1, .int a1), (2, .int (bI a2))] := hl
  have hx := C0.1
  have hb := C0.2.1
  have hs := hT.1
  rw [f_X10_trial_e] at h
  refine lv_iload_n hx hb dX10_trial_0 rfl (lv_at hl 1 rfl) ?_
  refine lv_iconst (v := (0 : Int32)) hx hb dX10_trial_1 (by decide) ?_
  refine lv_bipush (v := (60 : Int32)) hx hb dX10_trial_2 (by decide) ?_
  replace h := z_bxd h
  rcases h with ⟨E1, hq, hE⟩ | ⟨w1, q3, u2, hq, h⟩
  · cases hE
    exact z_csX (As := [.int a1, .int (0 : Int32), .int (60 : Int32)]) C0 hml hl.1 hW hS hex hlk (t_X10_needNumber l D A b G (q) hT hst a1 (0 : Int32) (60 : Int32) u hq) ms_X10_287 ⟨Nat.le_of_ble_eq_true rfl, Nat.le_of_ble_eq_true rfl⟩ ⟨Nat.le_of_ble_eq_true rfl, Nat.le_of_ble_eq_true rfl⟩ rfl rfl (Nat.le_of_ble_eq_true rfl) dX10_trial_4
  · refine z_csTv (As := [.int a1, .int (0 : Int32), .int (60 : Int32)]) C0 hml hl.1 hW hS (c_X10_needNumber l D A b G (q) hT a1 (0 : Int32) (60 : Int32) u hq) ms_X10_287 ⟨Nat.le_of_ble_eq_true rfl, Nat.le_of_ble_eq_true rfl⟩ rfl rfl (Nat.le_of_ble_eq_true rfl) dX10_trial_4 (fun H locs hW hS hT => ?_)
    clear hq
    have hs := hT.1
    refine lv_aload_n hx hb dX10_trial_7 rfl (lv_at hl 0 rfl) ?_
    refine lv_iload_n hx hb dX10_trial_8 rfl (lv_at hl 1 rfl) ?_
    refine lv_aload_n hx hb dX10_trial_9 rfl (lv_at hl 0 rfl) ?_
    refine z_getr (o := 6) C0 hW fl_X10_28 (zk1 (hs 0 (by decide))) rfl (zk3 (hs 0 (by decide)) 2) dX10_trial_10 ?_
    refine z_geti C0 hW fl_X10_314 (zT0 hT).1 rfl dX10_trial_13 ?_
    replace h := z_bd3 h
    obtain ⟨w4, q6, u5, hq, h⟩ := h
    refine z_cvTv (As := [.int a1, .int (u2 6 16)]) C0 hml hl.1 hW hS (c_X10_tryStops l D A b G (q3) hT a1 (u2 6 16) u2 hq) mv_X10_423 (zk1 (hs 0 (by decide))) ⟨Nat.le_of_ble_eq_true rfl, Nat.le_of_ble_eq_true rfl⟩ rfl rfl (Nat.le_of_ble_eq_true rfl) dX10_trial_16 (fun H locs hW hS hT => ?_)
    clear hq
    have hs := hT.1
    refine lv_iload_n hx hb dX10_trial_19 rfl (lv_at hl 2 rfl) ?_
    refine z_ifeqZ C0 (tgt := 33) dX10_trial_20 (by decide) (fun hc => ?_) (fun hc => ?_)
    · replace h := z_ff h hc
      clear hc
      refine lv_aload_n hx hb dX10_trial_33 rfl (lv_at hl 0 rfl) ?_
      refine z_getr (o := 17) C0 hW fl_X10_32 (zk1 (hs 0 (by decide))) rfl (zk3 (hs 0 (by decide)) 3) dX10_trial_34 ?_
      refine z_geti C0 hW fl_X10_239 (zT1 hT).1 rfl dX10_trial_37 ?_
      cases h
    · replace h := z_t h hc
      clear hc
      refine lv_aload_n hx hb dX10_trial_23 rfl (lv_at hl 0 rfl) ?_
      refine z_getr (o := 17) C0 hW fl_X10_32 (zk1 (hs 0 (by decide))) rfl (zk3 (hs 0 (by decide)) 3) dX10_trial_24 ?_
      refine z_geti C0 hW fl_X10_248 (zT1 hT).1 rfl dX10_trial_27 ?_
      refine lv_goto (tgt := 40) hx hb dX10_trial_30 (by decide) ?_
      cases h
def f_X10_span_17 : Nat → Int32 → Bool → Int32 → Int32 → Int32 → zq → zU → Option ((String ⊕ Int32) × zq × zU)
  | 0, _, _, _, _, _, _, _ => none
  | n + 1, x1, x2, x3, x4, x5, q, u =>
    if (6 : Int32) < x5 then (if x2 = true then (some (.inr x4, q, u)) else (some (.inr x3, q, u))) else (z_b3 (f_X10_tryStops (q) x1 x5 u) (fun w4 q6 u5 => z_let (z_min x3 (u5 17 11)) (fun z7 => z_let (z_max x4 (u5 17 11)) (fun z8 => f_X10_span_17 n x1 x2 z7 z8 (x5 + (1 : Int32)) q6 u5))))
theorem f_X10_span_17_s (n : Nat) (x1 : Int32) (x2 : Bool) (x3 : Int32) (x4 : Int32) (x5 : Int32) (q : zq) (u : zU) : f_X10_span_17 (n + 1) x1 x2 x3 x4 x5 q u = if (6 : Int32) < x5 then (if x2 = true then (some (.inr x4, q, u)) else (some (.inr x3, q, u))) else (z_b3 (f_X10_tryStops (q) x1 x5 u) (fun w4 q6 u5 => z_let (z_min x3 (u5 17 11)) (fun z7 => z_let (z_max x4 (u5 17 11)) (fun z8 => f_X10_span_17 n x1 x2 z7 z8 (x5 + (1 : Int32)) q6 u5)))) := rfl
def f_X10_span (q : zq) (a1 : Int32) (a2 : Bool) (u : zU) : Option ((String ⊕ Int32) × zq × zU) :=
  z_bx (f_X10_needNumber (q) a1 (0 : Int32) (60 : Int32) u) (fun w1 q3 u2 => f_X10_span_17 5000 a1 a2 (9999 : Int32) (0 : Int32) (1 : Int32) q3 u2)
set_option maxRecDepth 100000 in
set_option maxHeartbeats 4000000 in
theorem l_X10_span_17 {l : Launch} {D : zD} {A : Nat → Prop} {b : Nat} {p : Program} {e : Env} {s : State} {m : MethodId} {args : Array Value} {below : List Frame} {meth : Method} {c : Code} {G : zG} {v : Int32} {q' : zq} {u' : zU} (C0 : z_C p c cX10_span s m args yX10_span.cls D A) (hr : meth.sig.returnType = (some .int)) (hml : c.maxLocals = 6) (hlk : meth.locks = false) : ∀ (n : Nat) (x1 : Int32) (x2 : Bool) (x3 : Int32) (x4 : Int32) (x5 : Int32) (q : zq) (u : zU) (H : Heap) (locs : List Loc) (ls : Array Slot), f_X10_span_17 n x1 x2 x3 x4 x5 q u = some (.inr v, q', u') → zTop G q → z_W D A b (zg G q) u H → va_S A s.heap H locs → lv_has ls 6 [(0, .ref (b + 0)), (1, .int x1), (2, .int (bI x2)), (3, .int x3), (4, .int x4), (5, .int x5)] → W p l e { frames := 7, cells := 0, slots := 0, locals := 172 } s m args below meth c H locs 0 0 (z_EndT D A b G below args s (some (.int v)) q' u') (F0 m 17 ls []) := by
  have hx := C0.1
  have hb := C0.2.1
  intro n
  induction n with
  | zero => intro x1 x2 x3 x4 x5 q u H locs ls h hT hW hS hl; cases h
  | succ n ih =>
    intro x1 x2 x3 x4 x5 q u H locs ls h hT hW hS hl
    have hs := hT.1
    rw [f_X10_span_17_s] at h
    refine lv_iload hx hb dX10_span_17 (lv_at hl 5 rfl) ?_
    refine lv_bipush (v := (6 : Int32)) hx hb dX10_span_19 (by decide) ?_
    refine lv_icmp_gt (tgt := 63) hx hb dX10_span_21 (by decide) (fun hc => ?_) (fun hc => ?_)
    · replace h := z_t h hc
      clear hc
      refine lv_iload_n hx hb dX10_span_63 rfl (lv_at hl 2 rfl) ?_
      refine z_ifeqZ C0 (tgt := 72) dX10_span_64 (by decide) (fun hc => ?_) (fun hc => ?_)
      · replace h := z_ff h hc
        clear hc
        refine lv_iload_n hx hb dX10_span_72 rfl (lv_at hl 3 rfl) ?_
        cases h
        exact z_iretT C0 hr hlk hW hS hT dX10_span_73
      · replace h := z_t h hc
        clear hc
        refine lv_iload hx hb dX10_span_67 (lv_at hl 4 rfl) ?_
        refine lv_goto (tgt := 73) hx hb dX10_span_69 (by decide) ?_
        cases h
        exact z_iretT C0 hr hlk hW hS hT dX10_span_73
    · replace h := z_f h hc
      clear hc
      refine lv_aload_n hx hb dX10_span_24 rfl (lv_at hl 0 rfl) ?_
      refine lv_iload_n hx hb dX10_span_25 rfl (lv_at hl 1 rfl) ?_
      refine lv_iload hx hb dX10_span_26 (lv_at hl 5 rfl) ?_
      replace h := z_bd3 h
      obtain ⟨w4, q6, u5, hq, h⟩ := h
      refine z_cvTv (As := [.int x1, .int x5]) C0 hml hl.1 hW hS (c_X10_tryStops l D A b G (q) hT x1 x5 u hq) mv_X10_423 (zk1 (hs 0 (by decide))) ⟨Nat.le_of_ble_eq_true rfl, Nat.le_of_ble_eq_true rfl⟩ rfl rfl (Nat.le_of_ble_eq_true rfl) dX10_span_28 (fun H locs hW hS hT => ?_)
      clear hq
      have hs := hT.1
      refine lv_iload_n hx hb dX10_span_31 rfl (lv_at hl 3 rfl) ?_
      refine lv_aload_n hx hb dX10_span_32 rfl (lv_at hl 0 rfl) ?_
      refine z_getr (o := 17) C0 hW fl_X10_32 (zk1 (hs 0 (by decide))) rfl (zk3 (hs 0 (by decide)) 3) dX10_span_33 ?_
      refine z_geti C0 hW fl_X10_239 (zT1 hT).1 rfl dX10_span_36 ?_
      refine va_mmin hx hb (hml.trans hl.1.symm) C0.2.2.2.1 (C0.2.2.1 _ w_mm_X10_291) (C0.2.2.1 _ w_mst_min) (C0.2.2.1 _ w_min_Math) (C0.2.2.1 _ w_mco_min) (Nat.le_of_ble_eq_true rfl) (Nat.le_of_ble_eq_true rfl) (Nat.zero_le _) (Nat.zero_le _) dX10_span_39 ?_
      refine lv_topi (fun z7 e1 => ?_)
      replace h := z_ly h e1
      clear e1
      refine lv_istore_n (lv' := [(3, .int z7), (0, .ref (b + 0)), (1, .int x1), (2, .int (bI x2)), (4, .int x4), (5, .int x5)]) hx hb dX10_span_42 rfl hl (by decide) rfl (fun ls hl => ?_)
      refine lv_iload hx hb dX10_span_43 (lv_at hl 4 rfl) ?_
      refine lv_aload_n hx hb dX10_span_45 rfl (lv_at hl 1 rfl) ?_
      refine z_getr (o := 17) C0 hW fl_X10_32 (zk1 (hs 0 (by decide))) rfl (zk3 (hs 0 (by decide)) 3) dX10_span_46 ?_
      refine z_geti C0 hW fl_X10_239 (zT1 hT).1 rfl dX10_span_49 ?_
      refine va_mmax hx hb (hml.trans hl.1.symm) C0.2.2.2.1 (C0.2.2.1 _ w_mm_X10_373) (C0.2.2.1 _ w_mst_max) (C0.2.2.1 _ w_min_Math) (C0.2.2.1 _ w_mco_max) (Nat.le_of_ble_eq_true rfl) (Nat.le_of_ble_eq_true rfl) (Nat.zero_le _) (Nat.zero_le _) dX10_span_52 ?_
      refine lv_topi (fun z8 e1 => ?_)
      replace h := z_ly h e1
      clear e1
      refine lv_istore (lv' := [(4, .int z8), (3, .int z7), (0, .ref (b + 0)), (1, .int x1), (2, .int (bI x2)), (5, .int x5)]) hx hb dX10_span_55 hl (by decide) rfl (fun ls hl => ?_)
      refine lv_iinc (v := x5 + (1 : Int32)) (lv' := [(5, .int (x5 + (1 : Int32))), (4, .int z8), (3, .int z7), (0, .ref (b + 0)), (1, .int x1), (2, .int (bI x2))]) hx hb dX10_span_57 hl (k := 5) rfl rfl (by decide) rfl (fun ls hl => ?_)
      refine lv_goto (tgt := 17) hx hb dX10_span_60 (by decide) ?_
      exact ih _ _ _ _ _ _ _ _ _ _ h hT hW hS (lv_sub hl [3, 4, 5, 2, 1, 0] rfl)
theorem f_X10_span_e (q : zq) (a1 : Int32) (a2 : Bool) (u : zU) : f_X10_span q a1 a2 u = z_bx (f_X10_needNumber (q) a1 (0 : Int32) (60 : Int32) u) (fun w1 q3 u2 => f_X10_span_17 5000 a1 a2 (9999 : Int32) (0 : Int32) (1 : Int32) q3 u2) := rfl
set_option maxRecDepth 100000 in
set_option maxHeartbeats 4000000 in
theorem c_X10_span (l : Launch) (D : zD) (A : Nat → Prop) (b : Nat) (G : zG) (q : zq) (hT : zTop G q) (a1 : Int32) (a2 : Bool) (u : zU) {v : Int32} {q' : zq} {u' : zU} (h : f_X10_span q a1 a2 u = some (.inr v, q', u')) : z_MT l D A b G yX10_span cX10_span 6 (some .int) 7 172 [.ref (b + 0), .int a1, .int (bI a2)] q u (some (.int v)) q' u' := by
  refine z_enterT (by decide) (Nat.le_of_ble_eq_true rfl) ?_
  intro p e s m below meth c ls C0 hr hml hlk hW hS hl
  have hl : lv_has ls 6 [(0, .ref (b + 0)), (1, .int a1), (2, .int (bI a2))] := hl
  have hx := C0.1
  have hb := C0.2.1
  have hs := hT.1
  rw [f_X10_span_e] at h
  refine lv_iload_n hx hb dX10_span_0 rfl (lv_at hl 1 rfl) ?_
  refine lv_iconst (v := (0 : Int32)) hx hb dX10_span_1 (by decide) ?_
  refine lv_bipush (v := (60 : Int32)) hx hb dX10_span_2 (by decide) ?_
  replace h := z_bxd h
  rcases h with ⟨E1, hq, hE⟩ | ⟨w1, q3, u2, hq, h⟩
  · cases hE
  · refine z_csTv (As := [.int a1, .int (0 : Int32), .int (60 : Int32)]) C0 hml hl.1 hW hS (c_X10_needNumber l D A b G (q) hT a1 (0 : Int32) (60 : Int32) u hq) ms_X10_287 ⟨Nat.le_of_ble_eq_true rfl, Nat.le_of_ble_eq_true rfl⟩ rfl rfl (Nat.le_of_ble_eq_true rfl) dX10_span_4 (fun H locs hW hS hT => ?_)
    clear hq
    have hs := hT.1
    refine lv_sipush (v := (9999 : Int32)) hx hb dX10_span_7 (by decide) ?_
    refine lv_istore_n (lv' := [(3, .int (9999 : Int32)), (0, .ref (b + 0)), (1, .int a1), (2, .int (bI a2))]) hx hb dX10_span_10 rfl hl (by decide) rfl (fun ls hl => ?_)
    refine lv_iconst (v := (0 : Int32)) hx hb dX10_span_11 (by decide) ?_
    refine lv_istore (lv' := [(4, .int (0 : Int32)), (3, .int (9999 : Int32)), (0, .ref (b + 0)), (1, .int a1), (2, .int (bI a2))]) hx hb dX10_span_12 hl (by decide) rfl (fun ls hl => ?_)
    refine lv_iconst (v := (1 : Int32)) hx hb dX10_span_14 (by decide) ?_
    refine lv_istore (lv' := [(5, .int (1 : Int32)), (4, .int (0 : Int32)), (3, .int (9999 : Int32)), (0, .ref (b + 0)), (1, .int a1), (2, .int (bI a2))]) hx hb dX10_span_15 hl (by decide) rfl (fun ls hl => ?_)
    exact l_X10_span_17 C0 hr hml hlk 5000 _ _ _ _ _ _ _ _ _ _ h hT hW hS (lv_sub hl [3, 4, 5, 2, 1, 0] rfl)
set_option maxRecDepth 100000 in
set_option maxHeartbeats 4000000 in
theorem lx_X10_span_17 {l : Launch} {D : zD} {A : Nat → Prop} {b : Nat} {p : Program} {e : Env} {s : State} {m : MethodId} {args : Array Value} {below : List Frame} {meth : Method} {c : Code} {G : zG} {E : String} {q' : zq} {u' : zU} (C0 : z_C p c cX10_span s m args yX10_span.cls D A) (hex : ∀ x ∈ c.exceptionTable.toList, False) (hml : c.maxLocals = 6) (hlk : meth.locks = false) (hst : l.stackTraces = false) : ∀ (n : Nat) (x1 : Int32) (x2 : Bool) (x3 : Int32) (x4 : Int32) (x5 : Int32) (q : zq) (u : zU) (H : Heap) (locs : List Loc) (ls : Array Slot), f_X10_span_17 n x1 x2 x3 x4 x5 q u = some (.inl E, q', u') → zTop G q → z_W D A b (zg G q) u H → va_S A s.heap H locs → lv_has ls 6 [(0, .ref (b + 0)), (1, .int x1), (2, .int (bI x2)), (3, .int x3), (4, .int x4), (5, .int x5)] → W p l e { frames := 7, cells := 1, slots := 6, locals := 172 } s m args below meth c H locs 0 0 (z_EndX D A b G below args s E q' u') (F0 m 17 ls []) := by
  have hx := C0.1
  have hb := C0.2.1
  intro n
  induction n with
  | zero => intro x1 x2 x3 x4 x5 q u H locs ls h hT hW hS hl; cases h
  | succ n ih =>
    intro x1 x2 x3 x4 x5 q u H locs ls h hT hW hS hl
    have hs := hT.1
    rw [f_X10_span_17_s] at h
    refine lv_iload hx hb dX10_span_17 (lv_at hl 5 rfl) ?_
    refine lv_bipush (v := (6 : Int32)) hx hb dX10_span_19 (by decide) ?_
    refine lv_icmp_gt (tgt := 63) hx hb dX10_span_21 (by decide) (fun hc => ?_) (fun hc => ?_)
    · replace h := z_t h hc
      clear hc
      refine lv_iload_n hx hb dX10_span_63 rfl (lv_at hl 2 rfl) ?_
      refine z_ifeqZ C0 (tgt := 72) dX10_span_64 (by decide) (fun hc => ?_) (fun hc => ?_)
      · replace h := z_ff h hc
        clear hc
        refine lv_iload_n hx hb dX10_span_72 rfl (lv_at hl 3 rfl) ?_
        cases h
      · replace h := z_t h hc
        clear hc
        refine lv_iload hx hb dX10_span_67 (lv_at hl 4 rfl) ?_
        refine lv_goto (tgt := 73) hx hb dX10_span_69 (by decide) ?_
        cases h
    · replace h := z_f h hc
      clear hc
      refine lv_aload_n hx hb dX10_span_24 rfl (lv_at hl 0 rfl) ?_
      refine lv_iload_n hx hb dX10_span_25 rfl (lv_at hl 1 rfl) ?_
      refine lv_iload hx hb dX10_span_26 (lv_at hl 5 rfl) ?_
      replace h := z_bd3 h
      obtain ⟨w4, q6, u5, hq, h⟩ := h
      refine z_cvTv (As := [.int x1, .int x5]) C0 hml hl.1 hW hS (c_X10_tryStops l D A b G (q) hT x1 x5 u hq) mv_X10_423 (zk1 (hs 0 (by decide))) ⟨Nat.le_of_ble_eq_true rfl, Nat.le_of_ble_eq_true rfl⟩ rfl rfl (Nat.le_of_ble_eq_true rfl) dX10_span_28 (fun H locs hW hS hT => ?_)
      clear hq
      have hs := hT.1
      refine lv_iload_n hx hb dX10_span_31 rfl (lv_at hl 3 rfl) ?_
      refine lv_aload_n hx hb dX10_span_32 rfl (lv_at hl 0 rfl) ?_
      refine z_getr (o := 17) C0 hW fl_X10_32 (zk1 (hs 0 (by decide))) rfl (zk3 (hs 0 (by decide)) 3) dX10_span_33 ?_
      refine z_geti C0 hW fl_X10_239 (zT1 hT).1 rfl dX10_span_36 ?_
      refine va_mmin hx hb (hml.trans hl.1.symm) C0.2.2.2.1 (C0.2.2.1 _ w_mm_X10_291) (C0.2.2.1 _ w_mst_min) (C0.2.2.1 _ w_min_Math) (C0.2.2.1 _ w_mco_min) (Nat.le_of_ble_eq_true rfl) (Nat.le_of_ble_eq_true rfl) (Nat.zero_le _) (Nat.zero_le _) dX10_span_39 ?_
      refine lv_topi (fun z7 e1 => ?_)
      replace h := z_ly h e1
      clear e1
      refine lv_istore_n (lv' := [(3, .int z7), (0, .ref (b + 0)), (1, .int x1), (2, .int (bI x2)), (4, .int x4), (5, .int x5)]) hx hb dX10_span_42 rfl hl (by decide) rfl (fun ls hl => ?_)
      refine lv_iload hx hb dX10_span_43 (lv_at hl 4 rfl) ?_
      refine lv_aload_n hx hb dX10_span_45 rfl (lv_at hl 1 rfl) ?_
      refine z_getr (o := 17) C0 hW fl_X10_32 (zk1 (hs 0 (by decide))) rfl (zk3 (hs 0 (by decide)) 3) dX10_span_46 ?_
      refine z_geti C0 hW fl_X10_239 (zT1 hT).1 rfl dX10_span_49 ?_
      refine va_mmax hx hb (hml.trans hl.1.symm) C0.2.2.2.1 (C0.2.2.1 _ w_mm_X10_373) (C0.2.2.1 _ w_mst_max) (C0.2.2.1 _ w_min_Math) (C0.2.2.1 _ w_mco_max) (Nat.le_of_ble_eq_true rfl) (Nat.le_of_ble_eq_true rfl) (Nat.zero_le _) (Nat.zero_le _) dX10_span_52 ?_
      refine lv_topi (fun z8 e1 => ?_)
      replace h := z_ly h e1
      clear e1
      refine lv_istore (lv' := [(4, .int z8), (3, .int z7), (0, .ref (b + 0)), (1, .int x1), (2, .int (bI x2)), (5, .int x5)]) hx hb dX10_span_55 hl (by decide) rfl (fun ls hl => ?_)
      refine lv_iinc (v := x5 + (1 : Int32)) (lv' := [(5, .int (x5 + (1 : Int32))), (4, .int z8), (3, .int z7), (0, .ref (b + 0)), (1, .int x1), (2, .int (bI x2))]) hx hb dX10_span_57 hl (k := 5) rfl rfl (by decide) rfl (fun ls hl => ?_)
      refine lv_goto (tgt := 17) hx hb dX10_span_60 (by decide) ?_
      exact ih _ _ _ _ _ _ _ _ _ _ h hT hW hS (lv_sub hl [3, 4, 5, 2, 1, 0] rfl)
set_option maxRecDepth 100000 in
set_option maxHeartbeats 4000000 in
theorem t_X10_span (l : Launch) (D : zD) (A : Nat → Prop) (b : Nat) (G : zG) (q : zq) (hT : zTop G q) (hst : l.stackTraces = false) (a1 : Int32) (a2 : Bool) (u : zU) {E : String} {q' : zq} {u' : zU} (h : f_X10_span q a1 a2 u = some (.inl E, q', u')) : z_TX l D A b G yX10_span cX10_span 6 (some .int) 7 172 [.ref (b + 0), .int a1, .int (bI a2)] q u E q' u' := by
  refine z_enterX (by decide) (Nat.le_of_ble_eq_true rfl) ?_
  intro p e s m below meth c ls C0 hex hml hlk hW hS hl
  have hl : lv_has ls 6 [(0, .ref (b + 0)), (1, .int a1), (2, .int (bI a2))] := hl
  have hx := C0.1
  have hb := C0.2.1
  have hs := hT.1
  rw [f_X10_span_e] at h
  refine lv_iload_n hx hb dX10_span_0 rfl (lv_at hl 1 rfl) ?_
  refine lv_iconst (v := (0 : Int32)) hx hb dX10_span_1 (by decide) ?_
  refine lv_bipush (v := (60 : Int32)) hx hb dX10_span_2 (by decide) ?_
  replace h := z_bxd h
  rcases h with ⟨E1, hq, hE⟩ | ⟨w1, q3, u2, hq, h⟩
  · cases hE
    exact z_csX (As := [.int a1, .int (0 : Int32), .int (60 : Int32)]) C0 hml hl.1 hW hS hex hlk (t_X10_needNumber l D A b G (q) hT hst a1 (0 : Int32) (60 : Int32) u hq) ms_X10_287 ⟨Nat.le_of_ble_eq_true rfl, Nat.le_of_ble_eq_true rfl⟩ ⟨Nat.le_of_ble_eq_true rfl, Nat.le_of_ble_eq_true rfl⟩ rfl rfl (Nat.le_of_ble_eq_true rfl) dX10_span_4
  · refine z_csTv (As := [.int a1, .int (0 : Int32), .int (60 : Int32)]) C0 hml hl.1 hW hS (c_X10_needNumber l D A b G (q) hT a1 (0 : Int32) (60 : Int32) u hq) ms_X10_287 ⟨Nat.le_of_ble_eq_true rfl, Nat.le_of_ble_eq_true rfl⟩ rfl rfl (Nat.le_of_ble_eq_true rfl) dX10_span_4 (fun H locs hW hS hT => ?_)
    clear hq
    have hs := hT.1
    refine lv_sipush (v := (9999 : Int32)) hx hb dX10_span_7 (by decide) ?_
    refine lv_istore_n (lv' := [(3, .int (9999 : Int32)), (0, .ref (b + 0)), (1, .int a1), (2, .int (bI a2))]) hx hb dX10_span_10 rfl hl (by decide) rfl (fun ls hl => ?_)
    refine lv_iconst (v := (0 : Int32)) hx hb dX10_span_11 (by decide) ?_
    refine lv_istore (lv' := [(4, .int (0 : Int32)), (3, .int (9999 : Int32)), (0, .ref (b + 0)), (1, .int a1), (2, .int (bI a2))]) hx hb dX10_span_12 hl (by decide) rfl (fun ls hl => ?_)
    refine lv_iconst (v := (1 : Int32)) hx hb dX10_span_14 (by decide) ?_
    refine lv_istore (lv' := [(5, .int (1 : Int32)), (4, .int (0 : Int32)), (3, .int (9999 : Int32)), (0, .ref (b + 0)), (1, .int a1), (2, .int (bI a2))]) hx hb dX10_span_15 hl (by decide) rfl (fun ls hl => ?_)
    exact lx_X10_span_17 C0 hex hml hlk hst 5000 _ _ _ _ _ _ _ _ _ _ h hT hW hS (lv_sub hl [3, 4, 5, 2, 1, 0] rfl)
def f_X10_moves (q : zq) (a1 : Bool) (u : zU) : Option ((String ⊕ Int32) × zq × zU) :=
  z_bx (f_X10_needMoves (q) u) (fun w1 q3 u2 => (f_X7_least (31 : Int32) u2).bind (fun r4 => (f_X7_greatest u2).bind (fun r5 => z_let (z_up u2 1 1 (0 : Int32)) (fun u6 => if a1 = true then ((f_X10_leastReach (q3) r4 r5 u6).bind (fun r8 => some (.inr r8, q3, u6))) else ((f_X10_fittingPairs (q3) r4 r5 (0 : Int32) u6).bind (fun r7 => some (.inr r7, q3, u6)))))))
theorem f_X10_moves_e (q : zq) (a1 : Bool) (u : zU) : f_X10_moves q a1 u = z_bx (f_X10_needMoves (q) u) (fun w1 q3 u2 => (f_X7_least (31 : Int32) u2).bind (fun r4 => (f_X7_greatest u2).bind (fun r5 => z_let (z_up u2 1 1 (0 : Int32)) (fun u6 => if a1 = true then ((f_X10_leastReach (q3) r4 r5 u6).bind (fun r8 => some (.inr r8, q3, u6))) else ((f_X10_fittingPairs (q3) r4 r5 (0 : Int32) u6).bind (fun r7 => some (.inr r7, q3, u6))))))) := rfl
set_option maxRecDepth 100000 in
set_option maxHeartbeats 4000000 in
theorem c_X10_moves (l : Launch) (D : zD) (A : Nat → Prop) (b : Nat) (G : zG) (q : zq) (hT : zTop G q) (a1 : Bool) (u : zU) {v : Int32} {q' : zq} {u' : zU} (h : f_X10_moves q a1 u = some (.inr v, q', u')) : z_MT l D A b G yX10_moves cX10_moves 4 (some .int) 8 133 [.ref (b + 0), .int (bI a1)] q u (some (.int v)) q' u' := by
  refine z_enterT (by decide) (Nat.le_of_ble_eq_true rfl) ?_
  intro p e s m below meth c ls C0 hr hml hlk hW hS hl
  have hl : lv_has ls 4 [(0, .ref (b + 0)), (1, .int (bI a1))] := hl
  have hx := C0.1
  have hb := C0.2.1
  have hs := hT.1
  rw [f_X10_moves_e] at h
  refine lv_aload_n hx hb dX10_moves_0 rfl (lv_at hl 0 rfl) ?_
  replace h := z_bxd h
  rcases h with ⟨E1, hq, hE⟩ | ⟨w1, q3, u2, hq, h⟩
  · cases hE
  · refine z_cvTv (As := []) C0 hml hl.1 hW hS (c_X10_needMoves l D A b G (q) hT u hq) mv_X10_376 (zk1 (hs 0 (by decide))) ⟨Nat.le_of_ble_eq_true rfl, Nat.le_of_ble_eq_true rfl⟩ rfl rfl (Nat.le_of_ble_eq_true rfl) dX10_moves_1 (fun H locs hW hS hT => ?_)
    clear hq
    have hs := hT.1
    refine lv_aload_n hx hb dX10_moves_4 rfl (lv_at hl 0 rfl) ?_
    refine z_getr (o := 1) C0 hW fl_X10_10 (zk1 (hs 0 (by decide))) rfl (zk3 (hs 0 (by decide)) 0) dX10_moves_5 ?_
    refine lv_bipush (v := (31 : Int32)) hx hb dX10_moves_8 (by decide) ?_
    replace h := z_bd h
    obtain ⟨r4, hq, h⟩ := h
    refine z_cvi (As := [.int (31 : Int32)]) C0 hml hl.1 hW hS (c_X7_least l D A b (zg G q3) hs (31 : Int32) u2 hq) mv_X10_379 (zk1 (hs 1 (by decide))) ⟨Nat.le_of_ble_eq_true rfl, Nat.le_of_ble_eq_true rfl⟩ rfl rfl (Nat.le_of_ble_eq_true rfl) dX10_moves_10 (fun H locs hW hS => ?_)
    clear hq
    refine lv_istore_n (lv' := [(2, .int r4), (0, .ref (b + 0)), (1, .int (bI a1))]) hx hb dX10_moves_13 rfl hl (by decide) rfl (fun ls hl => ?_)
    refine lv_aload_n hx hb dX10_moves_14 rfl (lv_at hl 1 rfl) ?_
    refine z_getr (o := 1) C0 hW fl_X10_10 (zk1 (hs 0 (by decide))) rfl (zk3 (hs 0 (by decide)) 0) dX10_moves_15 ?_
    replace h := z_bd h
    obtain ⟨r5, hq, h⟩ := h
    refine z_cvi (As := []) C0 hml hl.1 hW hS (c_X7_greatest l D A b (zg G q3) hs u2 hq) mv_X10_382 (zk1 (hs 1 (by decide))) ⟨Nat.le_of_ble_eq_true rfl, Nat.le_of_ble_eq_true rfl⟩ rfl rfl (Nat.le_of_ble_eq_true rfl) dX10_moves_18 (fun H locs hW hS => ?_)
    clear hq
    refine lv_istore_n (lv' := [(3, .int r5), (2, .int r4), (0, .ref (b + 0)), (1, .int (bI a1))]) hx hb dX10_moves_21 rfl hl (by decide) rfl (fun ls hl => ?_)
    refine lv_aload_n hx hb dX10_moves_22 rfl (lv_at hl 2 rfl) ?_
    refine z_getr (o := 1) C0 hW fl_X10_10 (zk1 (hs 0 (by decide))) rfl (zk3 (hs 0 (by decide)) 0) dX10_moves_23 ?_
    refine lv_iconst (v := (0 : Int32)) hx hb dX10_moves_26 (by decide) ?_
    refine z_puti C0 hW hS fl_X10_85 (zk1 (hs 1 (by decide))) rfl rfl rfl dX10_moves_27 (fun H locs u6 e1 hW hS => ?_)
    replace h := z_ly h e1
    clear e1
    refine lv_iload_n hx hb dX10_moves_30 rfl (lv_at hl 3 rfl) ?_
    refine z_ifeqZ C0 (tgt := 42) dX10_moves_31 (by decide) (fun hc => ?_) (fun hc => ?_)
    · replace h := z_ff h hc
      clear hc
      refine lv_iload_n hx hb dX10_moves_42 rfl (lv_at hl 1 rfl) ?_
      refine lv_iload_n hx hb dX10_moves_43 rfl (lv_at hl 0 rfl) ?_
      refine lv_iconst (v := (0 : Int32)) hx hb dX10_moves_44 (by decide) ?_
      replace h := z_bd h
      obtain ⟨r7, hq, h⟩ := h
      refine z_csi (As := [.int r4, .int r5, .int (0 : Int32)]) C0 hml hl.1 hW hS (c_X10_fittingPairs l D A b G (q3) hT r4 r5 (0 : Int32) u6 hq) ms_X10_388 ⟨Nat.le_of_ble_eq_true rfl, Nat.le_of_ble_eq_true rfl⟩ rfl rfl (Nat.le_of_ble_eq_true rfl) dX10_moves_45 (fun H locs hW hS => ?_)
      clear hq
      cases h
      exact z_iretT C0 hr hlk hW hS hT dX10_moves_48
    · replace h := z_t h hc
      clear hc
      refine lv_iload_n hx hb dX10_moves_34 rfl (lv_at hl 1 rfl) ?_
      refine lv_iload_n hx hb dX10_moves_35 rfl (lv_at hl 0 rfl) ?_
      replace h := z_bd h
      obtain ⟨r8, hq, h⟩ := h
      refine z_csi (As := [.int r4, .int r5]) C0 hml hl.1 hW hS (c_X10_leastReach l D A b G (q3) hT r4 r5 u6 hq) ms_X10_385 ⟨Nat.le_of_ble_eq_true rfl, Nat.le_of_ble_eq_true rfl⟩ rfl rfl (Nat.le_of_ble_eq_true rfl) dX10_moves_36 (fun H locs hW hS => ?_)
      clear hq
      refine lv_goto (tgt := 48) hx hb dX10_moves_39 (by decide) ?_
      cases h
      exact z_iretT C0 hr hlk hW hS hT dX10_moves_48
set_option maxRecDepth 100000 in
set_option maxHeartbeats 4000000 in
theorem t_X10_moves (l : Launch) (D : zD) (A : Nat → Prop) (b : Nat) (G : zG) (q : zq) (hT : zTop G q) (hst : l.stackTraces = false) (a1 : Bool) (u : zU) {E : String} {q' : zq} {u' : zU} (h : f_X10_moves q a1 u = some (.inl E, q', u')) : z_TX l D A b G yX10_moves cX10_moves 4 (some .int) 8 133 [.ref (b + 0), .int (bI a1)] q u E q' u' := by
  refine z_enterX (by decide) (Nat.le_of_ble_eq_true rfl) ?_
  intro p e s m below meth c ls C0 hex hml hlk hW hS hl
  have hl : lv_has ls 4 [(0, .ref (b + 0)), (1, .int (bI a1))] := hl
  have hx := C0.1
  have hb := C0.2.1
  have hs := hT.1
  rw [f_X10_moves_e] at h
  refine lv_aload_n hx hb dX10_moves_0 rfl (lv_at hl 0 rfl) ?_
  replace h := z_bxd h
  rcases h with ⟨E1, hq, hE⟩ | ⟨w1, q3, u2, hq, h⟩
  · cases hE
    exact z_cvX (As := []) C0 hml hl.1 hW hS hex hlk (t_X10_needMoves l D A b G (q) hT hst u hq) mv_X10_376 (zk1 (hs 0 (by decide))) ⟨Nat.le_of_ble_eq_true rfl, Nat.le_of_ble_eq_true rfl⟩ ⟨Nat.le_of_ble_eq_true rfl, Nat.le_of_ble_eq_true rfl⟩ rfl rfl (Nat.le_of_ble_eq_true rfl) dX10_moves_1
  · refine z_cvTv (As := []) C0 hml hl.1 hW hS (c_X10_needMoves l D A b G (q) hT u hq) mv_X10_376 (zk1 (hs 0 (by decide))) ⟨Nat.le_of_ble_eq_true rfl, Nat.le_of_ble_eq_true rfl⟩ rfl rfl (Nat.le_of_ble_eq_true rfl) dX10_moves_1 (fun H locs hW hS hT => ?_)
    clear hq
    have hs := hT.1
    refine lv_aload_n hx hb dX10_moves_4 rfl (lv_at hl 0 rfl) ?_
    refine z_getr (o := 1) C0 hW fl_X10_10 (zk1 (hs 0 (by decide))) rfl (zk3 (hs 0 (by decide)) 0) dX10_moves_5 ?_
    refine lv_bipush (v := (31 : Int32)) hx hb dX10_moves_8 (by decide) ?_
    replace h := z_bd h
    obtain ⟨r4, hq, h⟩ := h
    refine z_cvi (As := [.int (31 : Int32)]) C0 hml hl.1 hW hS (c_X7_least l D A b (zg G q3) hs (31 : Int32) u2 hq) mv_X10_379 (zk1 (hs 1 (by decide))) ⟨Nat.le_of_ble_eq_true rfl, Nat.le_of_ble_eq_true rfl⟩ rfl rfl (Nat.le_of_ble_eq_true rfl) dX10_moves_10 (fun H locs hW hS => ?_)
    clear hq
    refine lv_istore_n (lv' := [(2, .int r4), (0, .ref (b + 0)), (1, .int (bI a1))]) hx hb dX10_moves_13 rfl hl (by decide) rfl (fun ls hl => ?_)
    refine lv_aload_n hx hb dX10_moves_14 rfl (lv_at hl 1 rfl) ?_
    refine z_getr (o := 1) C0 hW fl_X10_10 (zk1 (hs 0 (by decide))) rfl (zk3 (hs 0 (by decide)) 0) dX10_moves_15 ?_
    replace h := z_bd h
    obtain ⟨r5, hq, h⟩ := h
    refine z_cvi (As := []) C0 hml hl.1 hW hS (c_X7_greatest l D A b (zg G q3) hs u2 hq) mv_X10_382 (zk1 (hs 1 (by decide))) ⟨Nat.le_of_ble_eq_true rfl, Nat.le_of_ble_eq_true rfl⟩ rfl rfl (Nat.le_of_ble_eq_true rfl) dX10_moves_18 (fun H locs hW hS => ?_)
    clear hq
    refine lv_istore_n (lv' := [(3, .int r5), (2, .int r4), (0, .ref (b + 0)), (1, .int (bI a1))]) hx hb dX10_moves_21 rfl hl (by decide) rfl (fun ls hl => ?_)
    refine lv_aload_n hx hb dX10_moves_22 rfl (lv_at hl 2 rfl) ?_
    refine z_getr (o := 1) C0 hW fl_X10_10 (zk1 (hs 0 (by decide))) rfl (zk3 (hs 0 (by decide)) 0) dX10_moves_23 ?_
    refine lv_iconst (v := (0 : Int32)) hx hb dX10_moves_26 (by decide) ?_
    refine z_puti C0 hW hS fl_X10_85 (zk1 (hs 1 (by decide))) rfl rfl rfl dX10_moves_27 (fun H locs u6 e1 hW hS => ?_)
    replace h := z_ly h e1
    clear e1
    refine lv_iload_n hx hb dX10_moves_30 rfl (lv_at hl 3 rfl) ?_
    refine z_ifeqZ C0 (tgt := 42) dX10_moves_31 (by decide) (fun hc => ?_) (fun hc => ?_)
    · replace h := z_ff h hc
      clear hc
      refine lv_iload_n hx hb dX10_moves_42 rfl (lv_at hl 1 rfl) ?_
      refine lv_iload_n hx hb dX10_moves_43 rfl (lv_at hl 0 rfl) ?_
      refine lv_iconst (v := (0 : Int32)) hx hb dX10_moves_44 (by decide) ?_
      replace h := z_bd h
      obtain ⟨r7, hq, h⟩ := h
      refine z_csi (As := [.int r4, .int r5, .int (0 : Int32)]) C0 hml hl.1 hW hS (c_X10_fittingPairs l D A b G (q3) hT r4 r5 (0 : Int32) u6 hq) ms_X10_388 ⟨Nat.le_of_ble_eq_true rfl, Nat.le_of_ble_eq_true rfl⟩ rfl rfl (Nat.le_of_ble_eq_true rfl) dX10_moves_45 (fun H locs hW hS => ?_)
      clear hq
      cases h
    · replace h := z_t h hc
      clear hc
      refine lv_iload_n hx hb dX10_moves_34 rfl (lv_at hl 1 rfl) ?_
      refine lv_iload_n hx hb dX10_moves_35 rfl (lv_at hl 0 rfl) ?_
      replace h := z_bd h
      obtain ⟨r8, hq, h⟩ := h
      refine z_csi (As := [.int r4, .int r5]) C0 hml hl.1 hW hS (c_X10_leastReach l D A b G (q3) hT r4 r5 u6 hq) ms_X10_385 ⟨Nat.le_of_ble_eq_true rfl, Nat.le_of_ble_eq_true rfl⟩ rfl rfl (Nat.le_of_ble_eq_true rfl) dX10_moves_36 (fun H locs hW hS => ?_)
      clear hq
      refine lv_goto (tgt := 48) hx hb dX10_moves_39 (by decide) ?_
      cases h
def f_X10_watch_48 (q : zq) : Nat → Int32 → Int32 → Int32 → Int32 → Int32 → Int32 → zU → Option ((String ⊕ Int32) × zq × zU)
  | 0, _, _, _, _, _, _, _ => none
  | n + 1, x1, x2, x3, x4, x5, x6, u =>
    if (17 : Int32) < x6 then (some (.inr x4, q, u)) else (if x3 ≤ (1 : Int32) then (some (.inr x4, q, u)) else ((f_X10_fittingPairs (q) x1 x2 x6 u).bind (fun r9 => z_let (z_max r9 (x3 - r9)) (fun z10 => if x5 ≤ z10 then (f_X10_watch_48 q n x1 x2 x3 x4 x5 (x6 + (1 : Int32)) u) else (f_X10_watch_48 q n x1 x2 x3 x6 z10 (x6 + (1 : Int32)) u)))))
theorem f_X10_watch_48_s (q : zq) (n : Nat) (x1 : Int32) (x2 : Int32) (x3 : Int32) (x4 : Int32) (x5 : Int32) (x6 : Int32) (u : zU) : f_X10_watch_48 q (n + 1) x1 x2 x3 x4 x5 x6 u = if (17 : Int32) < x6 then (some (.inr x4, q, u)) else (if x3 ≤ (1 : Int32) then (some (.inr x4, q, u)) else ((f_X10_fittingPairs (q) x1 x2 x6 u).bind (fun r9 => z_let (z_max r9 (x3 - r9)) (fun z10 => if x5 ≤ z10 then (f_X10_watch_48 q n x1 x2 x3 x4 x5 (x6 + (1 : Int32)) u) else (f_X10_watch_48 q n x1 x2 x3 x6 z10 (x6 + (1 : Int32)) u))))) := rfl
def f_X10_watch (q : zq)  (u : zU) : Option ((String ⊕ Int32) × zq × zU) :=
  z_bx (f_X10_needMoves (q) u) (fun w1 q3 u2 => (f_X7_least (31 : Int32) u2).bind (fun r4 => (f_X7_greatest u2).bind (fun r5 => z_let (z_up u2 1 1 (0 : Int32)) (fun u6 => (f_X10_fittingPairs (q3) r4 r5 (0 : Int32) u6).bind (fun r7 => z_let (r7 + (1 : Int32)) (fun z8 => f_X10_watch_48 q3 5000 r4 r5 r7 (-1 : Int32) z8 (1 : Int32) u6))))))
set_option maxRecDepth 100000 in
set_option maxHeartbeats 4000000 in
theorem l_X10_watch_48 {l : Launch} {D : zD} {A : Nat → Prop} {b : Nat} {p : Program} {e : Env} {s : State} {m : MethodId} {args : Array Value} {below : List Frame} {meth : Method} {c : Code} {G : zG} {q : zq} {v : Int32} {q' : zq} {u' : zU} (C0 : z_C p c cX10_watch s m args yX10_watch.cls D A) (hr : meth.sig.returnType = (some .int)) (hml : c.maxLocals = 9) (hlk : meth.locks = false) (hT : zTop G q) : ∀ (n : Nat) (x1 : Int32) (x2 : Int32) (x3 : Int32) (x4 : Int32) (x5 : Int32) (x6 : Int32) (u : zU) (H : Heap) (locs : List Loc) (ls : Array Slot), f_X10_watch_48 q n x1 x2 x3 x4 x5 x6 u = some (.inr v, q', u') → z_W D A b (zg G q) u H → va_S A s.heap H locs → lv_has ls 9 [(1, .int x1), (2, .int x2), (3, .int x3), (4, .int x4), (5, .int x5), (6, .int x6)] → W p l e { frames := 8, cells := 0, slots := 0, locals := 133 } s m args below meth c H locs 0 0 (z_EndT D A b G below args s (some (.int v)) q' u') (F0 m 48 ls []) := by
  have hx := C0.1
  have hb := C0.2.1
  have hs := hT.1
  intro n
  induction n with
  | zero => intro x1 x2 x3 x4 x5 x6 u H locs ls h hW hS hl; cases h
  | succ n ih =>
    intro x1 x2 x3 x4 x5 x6 u H locs ls h hW hS hl
    rw [f_X10_watch_48_s] at h
    refine lv_iload hx hb dX10_watch_48 (lv_at hl 5 rfl) ?_
    refine lv_bipush (v := (17 : Int32)) hx hb dX10_watch_50 (by decide) ?_
    refine lv_icmp_gt (tgt := 101) hx hb dX10_watch_52 (by decide) (fun hc => ?_) (fun hc => ?_)
    · replace h := z_t h hc
      clear hc
      refine lv_iload hx hb dX10_watch_101 (lv_at hl 3 rfl) ?_
      cases h
      exact z_iretT C0 hr hlk hW hS hT dX10_watch_103
    · replace h := z_f h hc
      clear hc
      refine lv_iload_n hx hb dX10_watch_55 rfl (lv_at hl 2 rfl) ?_
      refine lv_iconst (v := (1 : Int32)) hx hb dX10_watch_56 (by decide) ?_
      refine lv_icmp_le (tgt := 101) hx hb dX10_watch_57 (by decide) (fun hc => ?_) (fun hc => ?_)
      · replace h := z_t h hc
        clear hc
        refine lv_iload hx hb dX10_watch_101 (lv_at hl 3 rfl) ?_
        cases h
        exact z_iretT C0 hr hlk hW hS hT dX10_watch_103
      · replace h := z_f h hc
        clear hc
        refine lv_iload_n hx hb dX10_watch_60 rfl (lv_at hl 0 rfl) ?_
        refine lv_iload_n hx hb dX10_watch_61 rfl (lv_at hl 1 rfl) ?_
        refine lv_iload hx hb dX10_watch_62 (lv_at hl 5 rfl) ?_
        replace h := z_bd h
        obtain ⟨r9, hq, h⟩ := h
        refine z_csi (As := [.int x1, .int x2, .int x6]) C0 hml hl.1 hW hS (c_X10_fittingPairs l D A b G (q) hT x1 x2 x6 u hq) ms_X10_388 ⟨Nat.le_of_ble_eq_true rfl, Nat.le_of_ble_eq_true rfl⟩ rfl rfl (Nat.le_of_ble_eq_true rfl) dX10_watch_64 (fun H locs hW hS => ?_)
        clear hq
        refine lv_istore (lv' := [(7, .int r9), (1, .int x1), (2, .int x2), (3, .int x3), (4, .int x4), (5, .int x5), (6, .int x6)]) hx hb dX10_watch_67 hl (by decide) rfl (fun ls hl => ?_)
        refine lv_iload hx hb dX10_watch_69 (lv_at hl 0 rfl) ?_
        refine lv_iload_n hx hb dX10_watch_71 rfl (lv_at hl 3 rfl) ?_
        refine lv_iload hx hb dX10_watch_72 (lv_at hl 0 rfl) ?_
        refine lv_isub hx hb dX10_watch_74 ?_
        refine va_mmax hx hb (hml.trans hl.1.symm) C0.2.2.2.1 (C0.2.2.1 _ w_mm_X10_373) (C0.2.2.1 _ w_mst_max) (C0.2.2.1 _ w_min_Math) (C0.2.2.1 _ w_mco_max) (Nat.le_of_ble_eq_true rfl) (Nat.le_of_ble_eq_true rfl) (Nat.zero_le _) (Nat.zero_le _) dX10_watch_75 ?_
        refine lv_topi (fun z10 e1 => ?_)
        replace h := z_ly h e1
        clear e1
        refine lv_istore (lv' := [(8, .int z10), (7, .int r9), (1, .int x1), (2, .int x2), (3, .int x3), (4, .int x4), (5, .int x5), (6, .int x6)]) hx hb dX10_watch_78 hl (by decide) rfl (fun ls hl => ?_)
        refine lv_iload hx hb dX10_watch_80 (lv_at hl 0 rfl) ?_
        refine lv_iload hx hb dX10_watch_82 (lv_at hl 6 rfl) ?_
        refine lv_icmp_ge (tgt := 95) hx hb dX10_watch_84 (by decide) (fun hc => ?_) (fun hc => ?_)
        · replace h := z_t h hc
          clear hc
          refine lv_iinc (v := x6 + (1 : Int32)) (lv' := [(6, .int (x6 + (1 : Int32))), (8, .int z10), (7, .int r9), (1, .int x1), (2, .int x2), (3, .int x3), (4, .int x4), (5, .int x5)]) hx hb dX10_watch_95 hl (k := 7) rfl rfl (by decide) rfl (fun ls hl => ?_)
          refine lv_goto (tgt := 48) hx hb dX10_watch_98 (by decide) ?_
          exact ih _ _ _ _ _ _ _ _ _ _ h hW hS (lv_sub hl [3, 4, 5, 6, 7, 0] rfl)
        · replace h := z_f h hc
          clear hc
          refine lv_iload hx hb dX10_watch_87 (lv_at hl 7 rfl) ?_
          refine lv_istore (lv' := [(4, .int x6), (8, .int z10), (7, .int r9), (1, .int x1), (2, .int x2), (3, .int x3), (5, .int x5), (6, .int x6)]) hx hb dX10_watch_89 hl (by decide) rfl (fun ls hl => ?_)
          refine lv_iload hx hb dX10_watch_91 (lv_at hl 1 rfl) ?_
          refine lv_istore (lv' := [(5, .int z10), (4, .int x6), (8, .int z10), (7, .int r9), (1, .int x1), (2, .int x2), (3, .int x3), (6, .int x6)]) hx hb dX10_watch_93 hl (by decide) rfl (fun ls hl => ?_)
          refine lv_iinc (v := x6 + (1 : Int32)) (lv' := [(6, .int (x6 + (1 : Int32))), (5, .int z10), (4, .int x6), (8, .int z10), (7, .int r9), (1, .int x1), (2, .int x2), (3, .int x3)]) hx hb dX10_watch_95 hl (k := 7) rfl rfl (by decide) rfl (fun ls hl => ?_)
          refine lv_goto (tgt := 48) hx hb dX10_watch_98 (by decide) ?_
          exact ih _ _ _ _ _ _ _ _ _ _ h hW hS (lv_sub hl [5, 6, 7, 2, 1, 0] rfl)
theorem f_X10_watch_e (q : zq)  (u : zU) : f_X10_watch q u = z_bx (f_X10_needMoves (q) u) (fun w1 q3 u2 => (f_X7_least (31 : Int32) u2).bind (fun r4 => (f_X7_greatest u2).bind (fun r5 => z_let (z_up u2 1 1 (0 : Int32)) (fun u6 => (f_X10_fittingPairs (q3) r4 r5 (0 : Int32) u6).bind (fun r7 => z_let (r7 + (1 : Int32)) (fun z8 => f_X10_watch_48 q3 5000 r4 r5 r7 (-1 : Int32) z8 (1 : Int32) u6)))))) := rfl
set_option maxRecDepth 100000 in
set_option maxHeartbeats 4000000 in
theorem c_X10_watch (l : Launch) (D : zD) (A : Nat → Prop) (b : Nat) (G : zG) (q : zq) (hT : zTop G q)  (u : zU) {v : Int32} {q' : zq} {u' : zU} (h : f_X10_watch q u = some (.inr v, q', u')) : z_MT l D A b G yX10_watch cX10_watch 9 (some .int) 8 133 [.ref (b + 0)] q u (some (.int v)) q' u' := by
  refine z_enterT (by decide) (Nat.le_of_ble_eq_true rfl) ?_
  intro p e s m below meth c ls C0 hr hml hlk hW hS hl
  have hl : lv_has ls 9 [(0, .ref (b + 0))] := hl
  have hx := C0.1
  have hb := C0.2.1
  have hs := hT.1
  rw [f_X10_watch_e] at h
  refine lv_aload_n hx hb dX10_watch_0 rfl (lv_at hl 0 rfl) ?_
  replace h := z_bxd h
  rcases h with ⟨E1, hq, hE⟩ | ⟨w1, q3, u2, hq, h⟩
  · cases hE
  · refine z_cvTv (As := []) C0 hml hl.1 hW hS (c_X10_needMoves l D A b G (q) hT u hq) mv_X10_376 (zk1 (hs 0 (by decide))) ⟨Nat.le_of_ble_eq_true rfl, Nat.le_of_ble_eq_true rfl⟩ rfl rfl (Nat.le_of_ble_eq_true rfl) dX10_watch_1 (fun H locs hW hS hT => ?_)
    clear hq
    have hs := hT.1
    refine lv_aload_n hx hb dX10_watch_4 rfl (lv_at hl 0 rfl) ?_
    refine z_getr (o := 1) C0 hW fl_X10_10 (zk1 (hs 0 (by decide))) rfl (zk3 (hs 0 (by decide)) 0) dX10_watch_5 ?_
    refine lv_bipush (v := (31 : Int32)) hx hb dX10_watch_8 (by decide) ?_
    replace h := z_bd h
    obtain ⟨r4, hq, h⟩ := h
    refine z_cvi (As := [.int (31 : Int32)]) C0 hml hl.1 hW hS (c_X7_least l D A b (zg G q3) hs (31 : Int32) u2 hq) mv_X10_379 (zk1 (hs 1 (by decide))) ⟨Nat.le_of_ble_eq_true rfl, Nat.le_of_ble_eq_true rfl⟩ rfl rfl (Nat.le_of_ble_eq_true rfl) dX10_watch_10 (fun H locs hW hS => ?_)
    clear hq
    refine lv_istore_n (lv' := [(1, .int r4), (0, .ref (b + 0))]) hx hb dX10_watch_13 rfl hl (by decide) rfl (fun ls hl => ?_)
    refine lv_aload_n hx hb dX10_watch_14 rfl (lv_at hl 1 rfl) ?_
    refine z_getr (o := 1) C0 hW fl_X10_10 (zk1 (hs 0 (by decide))) rfl (zk3 (hs 0 (by decide)) 0) dX10_watch_15 ?_
    replace h := z_bd h
    obtain ⟨r5, hq, h⟩ := h
    refine z_cvi (As := []) C0 hml hl.1 hW hS (c_X7_greatest l D A b (zg G q3) hs u2 hq) mv_X10_382 (zk1 (hs 1 (by decide))) ⟨Nat.le_of_ble_eq_true rfl, Nat.le_of_ble_eq_true rfl⟩ rfl rfl (Nat.le_of_ble_eq_true rfl) dX10_watch_18 (fun H locs hW hS => ?_)
    clear hq
    refine lv_istore_n (lv' := [(2, .int r5), (1, .int r4), (0, .ref (b + 0))]) hx hb dX10_watch_21 rfl hl (by decide) rfl (fun ls hl => ?_)
    refine lv_aload_n hx hb dX10_watch_22 rfl (lv_at hl 2 rfl) ?_
    refine z_getr (o := 1) C0 hW fl_X10_10 (zk1 (hs 0 (by decide))) rfl (zk3 (hs 0 (by decide)) 0) dX10_watch_23 ?_
    refine lv_iconst (v := (0 : Int32)) hx hb dX10_watch_26 (by decide) ?_
    refine z_puti C0 hW hS fl_X10_85 (zk1 (hs 1 (by decide))) rfl rfl rfl dX10_watch_27 (fun H locs u6 e1 hW hS => ?_)
    replace h := z_ly h e1
    clear e1
    refine lv_iload_n hx hb dX10_watch_30 rfl (lv_at hl 1 rfl) ?_
    refine lv_iload_n hx hb dX10_watch_31 rfl (lv_at hl 0 rfl) ?_
    refine lv_iconst (v := (0 : Int32)) hx hb dX10_watch_32 (by decide) ?_
    replace h := z_bd h
    obtain ⟨r7, hq, h⟩ := h
    refine z_csi (As := [.int r4, .int r5, .int (0 : Int32)]) C0 hml hl.1 hW hS (c_X10_fittingPairs l D A b G (q3) hT r4 r5 (0 : Int32) u6 hq) ms_X10_388 ⟨Nat.le_of_ble_eq_true rfl, Nat.le_of_ble_eq_true rfl⟩ rfl rfl (Nat.le_of_ble_eq_true rfl) dX10_watch_33 (fun H locs hW hS => ?_)
    clear hq
    refine lv_istore_n (lv' := [(3, .int r7), (2, .int r5), (1, .int r4), (0, .ref (b + 0))]) hx hb dX10_watch_36 rfl hl (by decide) rfl (fun ls hl => ?_)
    refine lv_iconst (v := (-1 : Int32)) hx hb dX10_watch_37 (by decide) ?_
    refine lv_istore (lv' := [(4, .int (-1 : Int32)), (3, .int r7), (2, .int r5), (1, .int r4), (0, .ref (b + 0))]) hx hb dX10_watch_38 hl (by decide) rfl (fun ls hl => ?_)
    refine lv_iload_n hx hb dX10_watch_40 rfl (lv_at hl 1 rfl) ?_
    refine lv_iconst (v := (1 : Int32)) hx hb dX10_watch_41 (by decide) ?_
    refine lv_iadd hx hb dX10_watch_42 ?_
    refine lv_topi (fun z8 e1 => ?_)
    replace h := z_ly h e1
    clear e1
    refine lv_istore (lv' := [(5, .int z8), (4, .int (-1 : Int32)), (3, .int r7), (2, .int r5), (1, .int r4), (0, .ref (b + 0))]) hx hb dX10_watch_43 hl (by decide) rfl (fun ls hl => ?_)
    refine lv_iconst (v := (1 : Int32)) hx hb dX10_watch_45 (by decide) ?_
    refine lv_istore (lv' := [(6, .int (1 : Int32)), (5, .int z8), (4, .int (-1 : Int32)), (3, .int r7), (2, .int r5), (1, .int r4), (0, .ref (b + 0))]) hx hb dX10_watch_46 hl (by decide) rfl (fun ls hl => ?_)
    exact l_X10_watch_48 C0 hr hml hlk hT 5000 _ _ _ _ _ _ _ _ _ _ h hW hS (lv_sub hl [5, 4, 3, 2, 1, 0] rfl)
set_option maxRecDepth 100000 in
set_option maxHeartbeats 4000000 in
theorem lx_X10_watch_48 {l : Launch} {D : zD} {A : Nat → Prop} {b : Nat} {p : Program} {e : Env} {s : State} {m : MethodId} {args : Array Value} {below : List Frame} {meth : Method} {c : Code} {G : zG} {q : zq} {E : String} {q' : zq} {u' : zU} (C0 : z_C p c cX10_watch s m args yX10_watch.cls D A) (hex : ∀ x ∈ c.exceptionTable.toList, False) (hml : c.maxLocals = 9) (hlk : meth.locks = false) (hT : zTop G q) (hst : l.stackTraces = false) : ∀ (n : Nat) (x1 : Int32) (x2 : Int32) (x3 : Int32) (x4 : Int32) (x5 : Int32) (x6 : Int32) (u : zU) (H : Heap) (locs : List Loc) (ls : Array Slot), f_X10_watch_48 q n x1 x2 x3 x4 x5 x6 u = some (.inl E, q', u') → z_W D A b (zg G q) u H → va_S A s.heap H locs → lv_has ls 9 [(1, .int x1), (2, .int x2), (3, .int x3), (4, .int x4), (5, .int x5), (6, .int x6)] → W p l e { frames := 8, cells := 1, slots := 6, locals := 133 } s m args below meth c H locs 0 0 (z_EndX D A b G below args s E q' u') (F0 m 48 ls []) := by
  have hx := C0.1
  have hb := C0.2.1
  have hs := hT.1
  intro n
  induction n with
  | zero => intro x1 x2 x3 x4 x5 x6 u H locs ls h hW hS hl; cases h
  | succ n ih =>
    intro x1 x2 x3 x4 x5 x6 u H locs ls h hW hS hl
    rw [f_X10_watch_48_s] at h
    refine lv_iload hx hb dX10_watch_48 (lv_at hl 5 rfl) ?_
    refine lv_bipush (v := (17 : Int32)) hx hb dX10_watch_50 (by decide) ?_
    refine lv_icmp_gt (tgt := 101) hx hb dX10_watch_52 (by decide) (fun hc => ?_) (fun hc => ?_)
    · replace h := z_t h hc
      clear hc
      refine lv_iload hx hb dX10_watch_101 (lv_at hl 3 rfl) ?_
      cases h
    · replace h := z_f h hc
      clear hc
      refine lv_iload_n hx hb dX10_watch_55 rfl (lv_at hl 2 rfl) ?_
      refine lv_iconst (v := (1 : Int32)) hx hb dX10_watch_56 (by decide) ?_
      refine lv_icmp_le (tgt := 101) hx hb dX10_watch_57 (by decide) (fun hc => ?_) (fun hc => ?_)
      · replace h := z_t h hc
        clear hc
        refine lv_iload hx hb dX10_watch_101 (lv_at hl 3 rfl) ?_
        cases h
      · replace h := z_f h hc
        clear hc
        refine lv_iload_n hx hb dX10_watch_60 rfl (lv_at hl 0 rfl) ?_
        refine lv_iload_n hx hb dX10_watch_61 rfl (lv_at hl 1 rfl) ?_
        refine lv_iload hx hb dX10_watch_62 (lv_at hl 5 rfl) ?_
        replace h := z_bd h
        obtain ⟨r9, hq, h⟩ := h
        refine z_csi (As := [.int x1, .int x2, .int x6]) C0 hml hl.1 hW hS (c_X10_fittingPairs l D A b G (q) hT x1 x2 x6 u hq) ms_X10_388 ⟨Nat.le_of_ble_eq_true rfl, Nat.le_of_ble_eq_true rfl⟩ rfl rfl (Nat.le_of_ble_eq_true rfl) dX10_watch_64 (fun H locs hW hS => ?_)
        clear hq
        refine lv_istore (lv' := [(7, .int r9), (1, .int x1), (2, .int x2), (3, .int x3), (4, .int x4), (5, .int x5), (6, .int x6)]) hx hb dX10_watch_67 hl (by decide) rfl (fun ls hl => ?_)
        refine lv_iload hx hb dX10_watch_69 (lv_at hl 0 rfl) ?_
        refine lv_iload_n hx hb dX10_watch_71 rfl (lv_at hl 3 rfl) ?_
        refine lv_iload hx hb dX10_watch_72 (lv_at hl 0 rfl) ?_
        refine lv_isub hx hb dX10_watch_74 ?_
        refine va_mmax hx hb (hml.trans hl.1.symm) C0.2.2.2.1 (C0.2.2.1 _ w_mm_X10_373) (C0.2.2.1 _ w_mst_max) (C0.2.2.1 _ w_min_Math) (C0.2.2.1 _ w_mco_max) (Nat.le_of_ble_eq_true rfl) (Nat.le_of_ble_eq_true rfl) (Nat.zero_le _) (Nat.zero_le _) dX10_watch_75 ?_
        refine lv_topi (fun z10 e1 => ?_)
        replace h := z_ly h e1
        clear e1
        refine lv_istore (lv' := [(8, .int z10), (7, .int r9), (1, .int x1), (2, .int x2), (3, .int x3), (4, .int x4), (5, .int x5), (6, .int x6)]) hx hb dX10_watch_78 hl (by decide) rfl (fun ls hl => ?_)
        refine lv_iload hx hb dX10_watch_80 (lv_at hl 0 rfl) ?_
        refine lv_iload hx hb dX10_watch_82 (lv_at hl 6 rfl) ?_
        refine lv_icmp_ge (tgt := 95) hx hb dX10_watch_84 (by decide) (fun hc => ?_) (fun hc => ?_)
        · replace h := z_t h hc
          clear hc
          refine lv_iinc (v := x6 + (1 : Int32)) (lv' := [(6, .int (x6 + (1 : Int32))), (8, .int z10), (7, .int r9), (1, .int x1), (2, .int x2), (3, .int x3), (4, .int x4), (5, .int x5)]) hx hb dX10_watch_95 hl (k := 7) rfl rfl (by decide) rfl (fun ls hl => ?_)
          refine lv_goto (tgt := 48) hx hb dX10_watch_98 (by decide) ?_
          exact ih _ _ _ _ _ _ _ _ _ _ h hW hS (lv_sub hl [3, 4, 5, 6, 7, 0] rfl)
        · replace h := z_f h hc
          clear hc
          refine lv_iload hx hb dX10_watch_87 (lv_at hl 7 rfl) ?_
          refine lv_istore (lv' := [(4, .int x6), (8, .int z10), (7, .int r9), (1, .int x1), (2, .int x2), (3, .int x3), (5, .int x5), (6, .int x6)]) hx hb dX10_watch_89 hl (by decide) rfl (fun ls hl => ?_)
          refine lv_iload hx hb dX10_watch_91 (lv_at hl 1 rfl) ?_
          refine lv_istore (lv' := [(5, .int z10), (4, .int x6), (8, .int z10), (7, .int r9), (1, .int x1), (2, .int x2), (3, .int x3), (6, .int x6)]) hx hb dX10_watch_93 hl (by decide) rfl (fun ls hl => ?_)
          refine lv_iinc (v := x6 + (1 : Int32)) (lv' := [(6, .int (x6 + (1 : Int32))), (5, .int z10), (4, .int x6), (8, .int z10), (7, .int r9), (1, .int x1), (2, .int x2), (3, .int x3)]) hx hb dX10_watch_95 hl (k := 7) rfl rfl (by decide) rfl (fun ls hl => ?_)
          refine lv_goto (tgt := 48) hx hb dX10_watch_98 (by decide) ?_
          exact ih _ _ _ _ _ _ _ _ _ _ h hW hS (lv_sub hl [5, 6, 7, 2, 1, 0] rfl)
set_option maxRecDepth 100000 in
set_option maxHeartbeats 4000000 in
theorem t_X10_watch (l : Launch) (D : zD) (A : Nat → Prop) (b : Nat) (G : zG) (q : zq) (hT : zTop G q) (hst : l.stackTraces = false)  (u : zU) {E : String} {q' : zq} {u' : zU} (h : f_X10_watch q u = some (.inl E, q', u')) : z_TX l D A b G yX10_watch cX10_watch 9 (some .int) 8 133 [.ref (b + 0)] q u E q' u' := by
  refine z_enterX (by decide) (Nat.le_of_ble_eq_true rfl) ?_
  intro p e s m below meth c ls C0 hex hml hlk hW hS hl
  have hl : lv_has ls 9 [(0, .ref (b + 0))] := hl
  have hx := C0.1
  have hb := C0.2.1
  have hs := hT.1
  rw [f_X10_watch_e] at h
  refine lv_aload_n hx hb dX10_watch_0 rfl (lv_at hl 0 rfl) ?_
  replace h := z_bxd h
  rcases h with ⟨E1, hq, hE⟩ | ⟨w1, q3, u2, hq, h⟩
  · cases hE
    exact z_cvX (As := []) C0 hml hl.1 hW hS hex hlk (t_X10_needMoves l D A b G (q) hT hst u hq) mv_X10_376 (zk1 (hs 0 (by decide))) ⟨Nat.le_of_ble_eq_true rfl, Nat.le_of_ble_eq_true rfl⟩ ⟨Nat.le_of_ble_eq_true rfl, Nat.le_of_ble_eq_true rfl⟩ rfl rfl (Nat.le_of_ble_eq_true rfl) dX10_watch_1
  · refine z_cvTv (As := []) C0 hml hl.1 hW hS (c_X10_needMoves l D A b G (q) hT u hq) mv_X10_376 (zk1 (hs 0 (by decide))) ⟨Nat.le_of_ble_eq_true rfl, Nat.le_of_ble_eq_true rfl⟩ rfl rfl (Nat.le_of_ble_eq_true rfl) dX10_watch_1 (fun H locs hW hS hT => ?_)
    clear hq
    have hs := hT.1
    refine lv_aload_n hx hb dX10_watch_4 rfl (lv_at hl 0 rfl) ?_
    refine z_getr (o := 1) C0 hW fl_X10_10 (zk1 (hs 0 (by decide))) rfl (zk3 (hs 0 (by decide)) 0) dX10_watch_5 ?_
    refine lv_bipush (v := (31 : Int32)) hx hb dX10_watch_8 (by decide) ?_
    replace h := z_bd h
    obtain ⟨r4, hq, h⟩ := h
    refine z_cvi (As := [.int (31 : Int32)]) C0 hml hl.1 hW hS (c_X7_least l D A b (zg G q3) hs (31 : Int32) u2 hq) mv_X10_379 (zk1 (hs 1 (by decide))) ⟨Nat.le_of_ble_eq_true rfl, Nat.le_of_ble_eq_true rfl⟩ rfl rfl (Nat.le_of_ble_eq_true rfl) dX10_watch_10 (fun H locs hW hS => ?_)
    clear hq
    refine lv_istore_n (lv' := [(1, .int r4), (0, .ref (b + 0))]) hx hb dX10_watch_13 rfl hl (by decide) rfl (fun ls hl => ?_)
    refine lv_aload_n hx hb dX10_watch_14 rfl (lv_at hl 1 rfl) ?_
    refine z_getr (o := 1) C0 hW fl_X10_10 (zk1 (hs 0 (by decide))) rfl (zk3 (hs 0 (by decide)) 0) dX10_watch_15 ?_
    replace h := z_bd h
    obtain ⟨r5, hq, h⟩ := h
    refine z_cvi (As := []) C0 hml hl.1 hW hS (c_X7_greatest l D A b (zg G q3) hs u2 hq) mv_X10_382 (zk1 (hs 1 (by decide))) ⟨Nat.le_of_ble_eq_true rfl, Nat.le_of_ble_eq_true rfl⟩ rfl rfl (Nat.le_of_ble_eq_true rfl) dX10_watch_18 (fun H locs hW hS => ?_)
    clear hq
    refine lv_istore_n (lv' := [(2, .int r5), (1, .int r4), (0, .ref (b + 0))]) hx hb dX10_watch_21 rfl hl (by decide) rfl (fun ls hl => ?_)
    refine lv_aload_n hx hb dX10_watch_22 rfl (lv_at hl 2 rfl) ?_
    refine z_getr (o := 1) C0 hW fl_X10_10 (zk1 (hs 0 (by decide))) rfl (zk3 (hs 0 (by decide)) 0) dX10_watch_23 ?_
    refine lv_iconst (v := (0 : Int32)) hx hb dX10_watch_26 (by decide) ?_
    refine z_puti C0 hW hS fl_X10_85 (zk1 (hs 1 (by decide))) rfl rfl rfl dX10_watch_27 (fun H locs u6 e1 hW hS => ?_)
    replace h := z_ly h e1
    clear e1
    refine lv_iload_n hx hb dX10_watch_30 rfl (lv_at hl 1 rfl) ?_
    refine lv_iload_n hx hb dX10_watch_31 rfl (lv_at hl 0 rfl) ?_
    refine lv_iconst (v := (0 : Int32)) hx hb dX10_watch_32 (by decide) ?_
    replace h := z_bd h
    obtain ⟨r7, hq, h⟩ := h
    refine z_csi (As := [.int r4, .int r5, .int (0 : Int32)]) C0 hml hl.1 hW hS (c_X10_fittingPairs l D A b G (q3) hT r4 r5 (0 : Int32) u6 hq) ms_X10_388 ⟨Nat.le_of_ble_eq_true rfl, Nat.le_of_ble_eq_true rfl⟩ rfl rfl (Nat.le_of_ble_eq_true rfl) dX10_watch_33 (fun H locs hW hS => ?_)
    clear hq
    refine lv_istore_n (lv' := [(3, .int r7), (2, .int r5), (1, .int r4), (0, .ref (b + 0))]) hx hb dX10_watch_36 rfl hl (by decide) rfl (fun ls hl => ?_)
    refine lv_iconst (v := (-1 : Int32)) hx hb dX10_watch_37 (by decide) ?_
    refine lv_istore (lv' := [(4, .int (-1 : Int32)), (3, .int r7), (2, .int r5), (1, .int r4), (0, .ref (b + 0))]) hx hb dX10_watch_38 hl (by decide) rfl (fun ls hl => ?_)
    refine lv_iload_n hx hb dX10_watch_40 rfl (lv_at hl 1 rfl) ?_
    refine lv_iconst (v := (1 : Int32)) hx hb dX10_watch_41 (by decide) ?_
    refine lv_iadd hx hb dX10_watch_42 ?_
    refine lv_topi (fun z8 e1 => ?_)
    replace h := z_ly h e1
    clear e1
    refine lv_istore (lv' := [(5, .int z8), (4, .int (-1 : Int32)), (3, .int r7), (2, .int r5), (1, .int r4), (0, .ref (b + 0))]) hx hb dX10_watch_43 hl (by decide) rfl (fun ls hl => ?_)
    refine lv_iconst (v := (1 : Int32)) hx hb dX10_watch_45 (by decide) ?_
    refine lv_istore (lv' := [(6, .int (1 : Int32)), (5, .int z8), (4, .int (-1 : Int32)), (3, .int r7), (2, .int r5), (1, .int r4), (0, .ref (b + 0))]) hx hb dX10_watch_46 hl (by decide) rfl (fun ls hl => ?_)
    exact lx_X10_watch_48 C0 hex hml hlk hT hst 5000 _ _ _ _ _ _ _ _ _ _ h hW hS (lv_sub hl [5, 4, 3, 2, 1, 0] rfl)
def f_X10_fire (q : zq)  (u : zU) : Option ((String ⊕ Int32) × zq × zU) :=
  z_bx (f_X10_needFires (q) u) (fun w1 q3 u2 => (f_X7_fireHeights u2).bind (fun r4 => z_let (z_up u2 1 1 (0 : Int32)) (fun u5 => some (.inr r4, q3, u5))))
theorem f_X10_fire_e (q : zq)  (u : zU) : f_X10_fire q u = z_bx (f_X10_needFires (q) u) (fun w1 q3 u2 => (f_X7_fireHeights u2).bind (fun r4 => z_let (z_up u2 1 1 (0 : Int32)) (fun u5 => some (.inr r4, q3, u5)))) := rfl
set_option maxRecDepth 100000 in
set_option maxHeartbeats 4000000 in
theorem c_X10_fire (l : Launch) (D : zD) (A : Nat → Prop) (b : Nat) (G : zG) (q : zq) (hT : zTop G q)  (u : zU) {v : Int32} {q' : zq} {u' : zU} (h : f_X10_fire q u = some (.inr v, q', u')) : z_MT l D A b G yX10_fire cX10_fire 2 (some .int) 8 134 [.ref (b + 0)] q u (some (.int v)) q' u' := by
  refine z_enterT (by decide) (Nat.le_of_ble_eq_true rfl) ?_
  intro p e s m below meth c ls C0 hr hml hlk hW hS hl
  have hl : lv_has ls 2 [(0, .ref (b + 0))] := hl
  have hx := C0.1
  have hb := C0.2.1
  have hs := hT.1
  rw [f_X10_fire_e] at h
  refine lv_aload_n hx hb dX10_fire_0 rfl (lv_at hl 0 rfl) ?_
  replace h := z_bxd h
  rcases h with ⟨E1, hq, hE⟩ | ⟨w1, q3, u2, hq, h⟩
  · cases hE
  · refine z_cvTv (As := []) C0 hml hl.1 hW hS (c_X10_needFires l D A b G (q) hT u hq) mv_X10_392 (zk1 (hs 0 (by decide))) ⟨Nat.le_of_ble_eq_true rfl, Nat.le_of_ble_eq_true rfl⟩ rfl rfl (Nat.le_of_ble_eq_true rfl) dX10_fire_1 (fun H locs hW hS hT => ?_)
    clear hq
    have hs := hT.1
    refine lv_aload_n hx hb dX10_fire_4 rfl (lv_at hl 0 rfl) ?_
    refine z_getr (o := 1) C0 hW fl_X10_10 (zk1 (hs 0 (by decide))) rfl (zk3 (hs 0 (by decide)) 0) dX10_fire_5 ?_
    replace h := z_bd h
    obtain ⟨r4, hq, h⟩ := h
    refine z_cvi (As := []) C0 hml hl.1 hW hS (c_X7_fireHeights l D A b (zg G q3) hs u2 hq) mv_X10_395 (zk1 (hs 1 (by decide))) ⟨Nat.le_of_ble_eq_true rfl, Nat.le_of_ble_eq_true rfl⟩ rfl rfl (Nat.le_of_ble_eq_true rfl) dX10_fire_8 (fun H locs hW hS => ?_)
    clear hq
    refine lv_istore_n (lv' := [(1, .int r4), (0, .ref (b + 0))]) hx hb dX10_fire_11 rfl hl (by decide) rfl (fun ls hl => ?_)
    refine lv_aload_n hx hb dX10_fire_12 rfl (lv_at hl 1 rfl) ?_
    refine z_getr (o := 1) C0 hW fl_X10_10 (zk1 (hs 0 (by decide))) rfl (zk3 (hs 0 (by decide)) 0) dX10_fire_13 ?_
    refine lv_iconst (v := (0 : Int32)) hx hb dX10_fire_16 (by decide) ?_
    refine z_puti C0 hW hS fl_X10_85 (zk1 (hs 1 (by decide))) rfl rfl rfl dX10_fire_17 (fun H locs u5 e1 hW hS => ?_)
    replace h := z_ly h e1
    clear e1
    refine lv_iload_n hx hb dX10_fire_20 rfl (lv_at hl 0 rfl) ?_
    cases h
    exact z_iretT C0 hr hlk hW hS hT dX10_fire_21
set_option maxRecDepth 100000 in
set_option maxHeartbeats 4000000 in
theorem t_X10_fire (l : Launch) (D : zD) (A : Nat → Prop) (b : Nat) (G : zG) (q : zq) (hT : zTop G q) (hst : l.stackTraces = false)  (u : zU) {E : String} {q' : zq} {u' : zU} (h : f_X10_fire q u = some (.inl E, q', u')) : z_TX l D A b G yX10_fire cX10_fire 2 (some .int) 8 134 [.ref (b + 0)] q u E q' u' := by
  refine z_enterX (by decide) (Nat.le_of_ble_eq_true rfl) ?_
  intro p e s m below meth c ls C0 hex hml hlk hW hS hl
  have hl : lv_has ls 2 [(0, .ref (b + 0))] := hl
  have hx := C0.1
  have hb := C0.2.1
  have hs := hT.1
  rw [f_X10_fire_e] at h
  refine lv_aload_n hx hb dX10_fire_0 rfl (lv_at hl 0 rfl) ?_
  replace h := z_bxd h
  rcases h with ⟨E1, hq, hE⟩ | ⟨w1, q3, u2, hq, h⟩
  · cases hE
    exact z_cvX (As := []) C0 hml hl.1 hW hS hex hlk (t_X10_needFires l D A b G (q) hT hst u hq) mv_X10_392 (zk1 (hs 0 (by decide))) ⟨Nat.le_of_ble_eq_true rfl, Nat.le_of_ble_eq_true rfl⟩ ⟨Nat.le_of_ble_eq_true rfl, Nat.le_of_ble_eq_true rfl⟩ rfl rfl (Nat.le_of_ble_eq_true rfl) dX10_fire_1
  · refine z_cvTv (As := []) C0 hml hl.1 hW hS (c_X10_needFires l D A b G (q) hT u hq) mv_X10_392 (zk1 (hs 0 (by decide))) ⟨Nat.le_of_ble_eq_true rfl, Nat.le_of_ble_eq_true rfl⟩ rfl rfl (Nat.le_of_ble_eq_true rfl) dX10_fire_1 (fun H locs hW hS hT => ?_)
    clear hq
    have hs := hT.1
    refine lv_aload_n hx hb dX10_fire_4 rfl (lv_at hl 0 rfl) ?_
    refine z_getr (o := 1) C0 hW fl_X10_10 (zk1 (hs 0 (by decide))) rfl (zk3 (hs 0 (by decide)) 0) dX10_fire_5 ?_
    replace h := z_bd h
    obtain ⟨r4, hq, h⟩ := h
    refine z_cvi (As := []) C0 hml hl.1 hW hS (c_X7_fireHeights l D A b (zg G q3) hs u2 hq) mv_X10_395 (zk1 (hs 1 (by decide))) ⟨Nat.le_of_ble_eq_true rfl, Nat.le_of_ble_eq_true rfl⟩ rfl rfl (Nat.le_of_ble_eq_true rfl) dX10_fire_8 (fun H locs hW hS => ?_)
    clear hq
    refine lv_istore_n (lv' := [(1, .int r4), (0, .ref (b + 0))]) hx hb dX10_fire_11 rfl hl (by decide) rfl (fun ls hl => ?_)
    refine lv_aload_n hx hb dX10_fire_12 rfl (lv_at hl 1 rfl) ?_
    refine z_getr (o := 1) C0 hW fl_X10_10 (zk1 (hs 0 (by decide))) rfl (zk3 (hs 0 (by decide)) 0) dX10_fire_13 ?_
    refine lv_iconst (v := (0 : Int32)) hx hb dX10_fire_16 (by decide) ?_
    refine z_puti C0 hW hS fl_X10_85 (zk1 (hs 1 (by decide))) rfl rfl rfl dX10_fire_17 (fun H locs u5 e1 hW hS => ?_)
    replace h := z_ly h e1
    clear e1
    refine lv_iload_n hx hb dX10_fire_20 rfl (lv_at hl 0 rfl) ?_
    cases h
def f_X10_ask_35 (q : zq) : Nat → Int32 → Int32 → Int32 → Int32 → Int32 → zU → Option ((String ⊕ Int32) × zq × zU)
  | 0, _, _, _, _, _, _ => none
  | n + 1, x1, x2, x3, x4, x5, u =>
    if (5 : Int32) ≤ x5 then (some (.inr x3, q, u)) else (if x2 ≤ (1 : Int32) then (some (.inr x3, q, u)) else (z_let (f_J6_bitCount_0f7a4 (x1 &&& (((2 : Int32) <<< (x5 &&& 31)) - (1 : Int32))) u) (fun r8 => z_let (z_max r8 (x2 - r8)) (fun z9 => if x4 ≤ z9 then (f_X10_ask_35 q n x1 x2 x3 x4 (x5 + (1 : Int32)) u) else (f_X10_ask_35 q n x1 x2 x5 z9 (x5 + (1 : Int32)) u)))))
theorem f_X10_ask_35_s (q : zq) (n : Nat) (x1 : Int32) (x2 : Int32) (x3 : Int32) (x4 : Int32) (x5 : Int32) (u : zU) : f_X10_ask_35 q (n + 1) x1 x2 x3 x4 x5 u = if (5 : Int32) ≤ x5 then (some (.inr x3, q, u)) else (if x2 ≤ (1 : Int32) then (some (.inr x3, q, u)) else (z_let (f_J6_bitCount_0f7a4 (x1 &&& (((2 : Int32) <<< (x5 &&& 31)) - (1 : Int32))) u) (fun r8 => z_let (z_max r8 (x2 - r8)) (fun z9 => if x4 ≤ z9 then (f_X10_ask_35 q n x1 x2 x3 x4 (x5 + (1 : Int32)) u) else (f_X10_ask_35 q n x1 x2 x5 z9 (x5 + (1 : Int32)) u))))) := rfl
def f_X10_ask (q : zq)  (u : zU) : Option ((String ⊕ Int32) × zq × zU) :=
  z_bx (f_X10_needFires (q) u) (fun w1 q3 u2 => (f_X7_fireHeights u2).bind (fun r4 => z_let (z_up u2 1 1 (0 : Int32)) (fun u5 => z_let (f_J6_bitCount_0f7a4 r4 u5) (fun r6 => z_let (r6 + (1 : Int32)) (fun z7 => f_X10_ask_35 q3 5000 r4 r6 (-1 : Int32) z7 (0 : Int32) u5)))))
set_option maxRecDepth 100000 in
set_option maxHeartbeats 4000000 in
theorem l_X10_ask_35 {l : Launch} {D : zD} {A : Nat → Prop} {b : Nat} {p : Program} {e : Env} {s : State} {m : MethodId} {args : Array Value} {below : List Frame} {meth : Method} {c : Code} {G : zG} {q : zq} {v : Int32} {q' : zq} {u' : zU} (C0 : z_C p c cX10_ask s m args yX10_ask.cls D A) (hr : meth.sig.returnType = (some .int)) (hml : c.maxLocals = 8) (hlk : meth.locks = false) (hT : zTop G q) : ∀ (n : Nat) (x1 : Int32) (x2 : Int32) (x3 : Int32) (x4 : Int32) (x5 : Int32) (u : zU) (H : Heap) (locs : List Loc) (ls : Array Slot), f_X10_ask_35 q n x1 x2 x3 x4 x5 u = some (.inr v, q', u') → z_W D A b (zg G q) u H → va_S A s.heap H locs → lv_has ls 8 [(1, .int x1), (2, .int x2), (3, .int x3), (4, .int x4), (5, .int x5)] → W p l e { frames := 8, cells := 0, slots := 0, locals := 134 } s m args below meth c H locs 0 0 (z_EndT D A b G below args s (some (.int v)) q' u') (F0 m 35 ls []) := by
  have hx := C0.1
  have hb := C0.2.1
  have hs := hT.1
  intro n
  induction n with
  | zero => intro x1 x2 x3 x4 x5 u H locs ls h hW hS hl; cases h
  | succ n ih =>
    intro x1 x2 x3 x4 x5 u H locs ls h hW hS hl
    rw [f_X10_ask_35_s] at h
    refine lv_iload hx hb dX10_ask_35 (lv_at hl 4 rfl) ?_
    refine lv_iconst (v := (5 : Int32)) hx hb dX10_ask_37 (by decide) ?_
    refine lv_icmp_ge (tgt := 90) hx hb dX10_ask_38 (by decide) (fun hc => ?_) (fun hc => ?_)
    · replace h := z_t h hc
      clear hc
      refine lv_iload_n hx hb dX10_ask_90 rfl (lv_at hl 2 rfl) ?_
      cases h
      exact z_iretT C0 hr hlk hW hS hT dX10_ask_91
    · replace h := z_f h hc
      clear hc
      refine lv_iload_n hx hb dX10_ask_41 rfl (lv_at hl 1 rfl) ?_
      refine lv_iconst (v := (1 : Int32)) hx hb dX10_ask_42 (by decide) ?_
      refine lv_icmp_le (tgt := 90) hx hb dX10_ask_43 (by decide) (fun hc => ?_) (fun hc => ?_)
      · replace h := z_t h hc
        clear hc
        refine lv_iload_n hx hb dX10_ask_90 rfl (lv_at hl 2 rfl) ?_
        cases h
        exact z_iretT C0 hr hlk hW hS hT dX10_ask_91
      · replace h := z_f h hc
        clear hc
        refine lv_iload_n hx hb dX10_ask_46 rfl (lv_at hl 0 rfl) ?_
        refine lv_iconst (v := (2 : Int32)) hx hb dX10_ask_47 (by decide) ?_
        refine lv_iload hx hb dX10_ask_48 (lv_at hl 4 rfl) ?_
        refine lv_ishl hx hb dX10_ask_50 ?_
        refine lv_iconst (v := (1 : Int32)) hx hb dX10_ask_51 (by decide) ?_
        refine lv_isub hx hb dX10_ask_52 ?_
        refine lv_iand hx hb dX10_ask_53 ?_
        obtain ⟨r8, hq⟩ : ∃ y, f_J6_bitCount_0f7a4 (x1 &&& (((2 : Int32) <<< (x5 &&& 31)) - (1 : Int32))) u = y := ⟨_, rfl⟩
        replace h := z_lz h hq
        refine z_csi (As := [.int (x1 &&& (((2 : Int32) <<< (x5 &&& 31)) - (1 : Int32)))]) C0 hml hl.1 hW hS (c_J6_bitCount_0f7a4 l D A b (zg G q) (x1 &&& (((2 : Int32) <<< (x5 &&& 31)) - (1 : Int32))) u hq) ms_X10_231 ⟨Nat.le_of_ble_eq_true rfl, Nat.le_of_ble_eq_true rfl⟩ rfl rfl (Nat.le_of_ble_eq_true rfl) dX10_ask_54 (fun H locs hW hS => ?_)
        clear hq
        refine lv_istore (lv' := [(6, .int r8), (1, .int x1), (2, .int x2), (3, .int x3), (4, .int x4), (5, .int x5)]) hx hb dX10_ask_57 hl (by decide) rfl (fun ls hl => ?_)
        refine lv_iload hx hb dX10_ask_59 (lv_at hl 0 rfl) ?_
        refine lv_iload_n hx hb dX10_ask_61 rfl (lv_at hl 2 rfl) ?_
        refine lv_iload hx hb dX10_ask_62 (lv_at hl 0 rfl) ?_
        refine lv_isub hx hb dX10_ask_64 ?_
        refine va_mmax hx hb (hml.trans hl.1.symm) C0.2.2.2.1 (C0.2.2.1 _ w_mm_X10_373) (C0.2.2.1 _ w_mst_max) (C0.2.2.1 _ w_min_Math) (C0.2.2.1 _ w_mco_max) (Nat.le_of_ble_eq_true rfl) (Nat.le_of_ble_eq_true rfl) (Nat.zero_le _) (Nat.zero_le _) dX10_ask_65 ?_
        refine lv_topi (fun z9 e1 => ?_)
        replace h := z_ly h e1
        clear e1
        refine lv_istore (lv' := [(7, .int z9), (6, .int r8), (1, .int x1), (2, .int x2), (3, .int x3), (4, .int x4), (5, .int x5)]) hx hb dX10_ask_68 hl (by decide) rfl (fun ls hl => ?_)
        refine lv_iload hx hb dX10_ask_70 (lv_at hl 0 rfl) ?_
        refine lv_iload hx hb dX10_ask_72 (lv_at hl 5 rfl) ?_
        refine lv_icmp_ge (tgt := 84) hx hb dX10_ask_74 (by decide) (fun hc => ?_) (fun hc => ?_)
        · replace h := z_t h hc
          clear hc
          refine lv_iinc (v := x5 + (1 : Int32)) (lv' := [(5, .int (x5 + (1 : Int32))), (7, .int z9), (6, .int r8), (1, .int x1), (2, .int x2), (3, .int x3), (4, .int x4)]) hx hb dX10_ask_84 hl (k := 6) rfl rfl (by decide) rfl (fun ls hl => ?_)
          refine lv_goto (tgt := 35) hx hb dX10_ask_87 (by decide) ?_
          exact ih _ _ _ _ _ _ _ _ _ h hW hS (lv_sub hl [3, 4, 5, 6, 0] rfl)
        · replace h := z_f h hc
          clear hc
          refine lv_iload hx hb dX10_ask_77 (lv_at hl 6 rfl) ?_
          refine lv_istore_n (lv' := [(3, .int x5), (7, .int z9), (6, .int r8), (1, .int x1), (2, .int x2), (4, .int x4), (5, .int x5)]) hx hb dX10_ask_79 rfl hl (by decide) rfl (fun ls hl => ?_)
          refine lv_iload hx hb dX10_ask_80 (lv_at hl 1 rfl) ?_
          refine lv_istore (lv' := [(4, .int z9), (3, .int x5), (7, .int z9), (6, .int r8), (1, .int x1), (2, .int x2), (5, .int x5)]) hx hb dX10_ask_82 hl (by decide) rfl (fun ls hl => ?_)
          refine lv_iinc (v := x5 + (1 : Int32)) (lv' := [(5, .int (x5 + (1 : Int32))), (4, .int z9), (3, .int x5), (7, .int z9), (6, .int r8), (1, .int x1), (2, .int x2)]) hx hb dX10_ask_84 hl (k := 6) rfl rfl (by decide) rfl (fun ls hl => ?_)
          refine lv_goto (tgt := 35) hx hb dX10_ask_87 (by decide) ?_
          exact ih _ _ _ _ _ _ _ _ _ h hW hS (lv_sub hl [5, 6, 2, 1, 0] rfl)
theorem f_X10_ask_e (q : zq)  (u : zU) : f_X10_ask q u = z_bx (f_X10_needFires (q) u) (fun w1 q3 u2 => (f_X7_fireHeights u2).bind (fun r4 => z_let (z_up u2 1 1 (0 : Int32)) (fun u5 => z_let (f_J6_bitCount_0f7a4 r4 u5) (fun r6 => z_let (r6 + (1 : Int32)) (fun z7 => f_X10_ask_35 q3 5000 r4 r6 (-1 : Int32) z7 (0 : Int32) u5))))) := rfl
set_option maxRecDepth 100000 in
set_option maxHeartbeats 4000000 in
theorem c_X10_ask (l : Launch) (D : zD) (A : Nat → Prop) (b : Nat) (G : zG) (q : zq) (hT : zTop G q)  (u : zU) {v : Int32} {q' : zq} {u' : zU} (h : f_X10_ask q u = some (.inr v, q', u')) : z_MT l D A b G yX10_ask cX10_ask 8 (some .int) 8 134 [.ref (b + 0)] q u (some (.int v)) q' u' := by
  refine z_enterT (by decide) (Nat.le_of_ble_eq_true rfl) ?_
  intro p e s m below meth c ls C0 hr hml hlk hW hS hl
  have hl : lv_has ls 8 [(0, .ref (b + 0))] := hl
  have hx := C0.1
  have hb := C0.2.1
  have hs := hT.1
  rw [f_X10_ask_e] at h
  refine lv_aload_n hx hb dX10_ask_0 rfl (lv_at hl 0 rfl) ?_
  replace h := z_bxd h
  rcases h with ⟨E1, hq, hE⟩ | ⟨w1, q3, u2, hq, h⟩
  · cases hE
  · refine z_cvTv (As := []) C0 hml hl.1 hW hS (c_X10_needFires l D A b G (q) hT u hq) mv_X10_392 (zk1 (hs 0 (by decide))) ⟨Nat.le_of_ble_eq_true rfl, Nat.le_of_ble_eq_true rfl⟩ rfl rfl (Nat.le_of_ble_eq_true rfl) dX10_ask_1 (fun H locs hW hS hT => ?_)
    clear hq
    have hs := hT.1
    refine lv_aload_n hx hb dX10_ask_4 rfl (lv_at hl 0 rfl) ?_
    refine z_getr (o := 1) C0 hW fl_X10_10 (zk1 (hs 0 (by decide))) rfl (zk3 (hs 0 (by decide)) 0) dX10_ask_5 ?_
    replace h := z_bd h
    obtain ⟨r4, hq, h⟩ := h
    refine z_cvi (As := []) C0 hml hl.1 hW hS (c_X7_fireHeights l D A b (zg G q3) hs u2 hq) mv_X10_395 (zk1 (hs 1 (by decide))) ⟨Nat.le_of_ble_eq_true rfl, Nat.le_of_ble_eq_true rfl⟩ rfl rfl (Nat.le_of_ble_eq_true rfl) dX10_ask_8 (fun H locs hW hS => ?_)
    clear hq
    refine lv_istore_n (lv' := [(1, .int r4), (0, .ref (b + 0))]) hx hb dX10_ask_11 rfl hl (by decide) rfl (fun ls hl => ?_)
    refine lv_aload_n hx hb dX10_ask_12 rfl (lv_at hl 1 rfl) ?_
    refine z_getr (o := 1) C0 hW fl_X10_10 (zk1 (hs 0 (by decide))) rfl (zk3 (hs 0 (by decide)) 0) dX10_ask_13 ?_
    refine lv_iconst (v := (0 : Int32)) hx hb dX10_ask_16 (by decide) ?_
    refine z_puti C0 hW hS fl_X10_85 (zk1 (hs 1 (by decide))) rfl rfl rfl dX10_ask_17 (fun H locs u5 e1 hW hS => ?_)
    replace h := z_ly h e1
    clear e1
    refine lv_iload_n hx hb dX10_ask_20 rfl (lv_at hl 0 rfl) ?_
    obtain ⟨r6, hq⟩ : ∃ y, f_J6_bitCount_0f7a4 r4 u5 = y := ⟨_, rfl⟩
    replace h := z_lz h hq
    refine z_csi (As := [.int r4]) C0 hml hl.1 hW hS (c_J6_bitCount_0f7a4 l D A b (zg G q3) r4 u5 hq) ms_X10_231 ⟨Nat.le_of_ble_eq_true rfl, Nat.le_of_ble_eq_true rfl⟩ rfl rfl (Nat.le_of_ble_eq_true rfl) dX10_ask_21 (fun H locs hW hS => ?_)
    clear hq
    refine lv_istore_n (lv' := [(2, .int r6), (1, .int r4), (0, .ref (b + 0))]) hx hb dX10_ask_24 rfl hl (by decide) rfl (fun ls hl => ?_)
    refine lv_iconst (v := (-1 : Int32)) hx hb dX10_ask_25 (by decide) ?_
    refine lv_istore_n (lv' := [(3, .int (-1 : Int32)), (2, .int r6), (1, .int r4), (0, .ref (b + 0))]) hx hb dX10_ask_26 rfl hl (by decide) rfl (fun ls hl => ?_)
    refine lv_iload_n hx hb dX10_ask_27 rfl (lv_at hl 1 rfl) ?_
    refine lv_iconst (v := (1 : Int32)) hx hb dX10_ask_28 (by decide) ?_
    refine lv_iadd hx hb dX10_ask_29 ?_
    refine lv_topi (fun z7 e1 => ?_)
    replace h := z_ly h e1
    clear e1
    refine lv_istore (lv' := [(4, .int z7), (3, .int (-1 : Int32)), (2, .int r6), (1, .int r4), (0, .ref (b + 0))]) hx hb dX10_ask_30 hl (by decide) rfl (fun ls hl => ?_)
    refine lv_iconst (v := (0 : Int32)) hx hb dX10_ask_32 (by decide) ?_
    refine lv_istore (lv' := [(5, .int (0 : Int32)), (4, .int z7), (3, .int (-1 : Int32)), (2, .int r6), (1, .int r4), (0, .ref (b + 0))]) hx hb dX10_ask_33 hl (by decide) rfl (fun ls hl => ?_)
    exact l_X10_ask_35 C0 hr hml hlk hT 5000 _ _ _ _ _ _ _ _ _ h hW hS (lv_sub hl [4, 3, 2, 1, 0] rfl)
set_option maxRecDepth 100000 in
set_option maxHeartbeats 4000000 in
theorem lx_X10_ask_35 {l : Launch} {D : zD} {A : Nat → Prop} {b : Nat} {p : Program} {e : Env} {s : State} {m : MethodId} {args : Array Value} {below : List Frame} {meth : Method} {c : Code} {G : zG} {q : zq} {E : String} {q' : zq} {u' : zU} (C0 : z_C p c cX10_ask s m args yX10_ask.cls D A) (hex : ∀ x ∈ c.exceptionTable.toList, False) (hml : c.maxLocals = 8) (hlk : meth.locks = false) (hT : zTop G q) (hst : l.stackTraces = false) : ∀ (n : Nat) (x1 : Int32) (x2 : Int32) (x3 : Int32) (x4 : Int32) (x5 : Int32) (u : zU) (H : Heap) (locs : List Loc) (ls : Array Slot), f_X10_ask_35 q n x1 x2 x3 x4 x5 u = some (.inl E, q', u') → z_W D A b (zg G q) u H → va_S A s.heap H locs → lv_has ls 8 [(1, .int x1), (2, .int x2), (3, .int x3), (4, .int x4), (5, .int x5)] → W p l e { frames := 8, cells := 1, slots := 6, locals := 134 } s m args below meth c H locs 0 0 (z_EndX D A b G below args s E q' u') (F0 m 35 ls []) := by
  have hx := C0.1
  have hb := C0.2.1
  have hs := hT.1
  intro n
  induction n with
  | zero => intro x1 x2 x3 x4 x5 u H locs ls h hW hS hl; cases h
  | succ n ih =>
    intro x1 x2 x3 x4 x5 u H locs ls h hW hS hl
    rw [f_X10_ask_35_s] at h
    refine lv_iload hx hb dX10_ask_35 (lv_at hl 4 rfl) ?_
    refine lv_iconst (v := (5 : Int32)) hx hb dX10_ask_37 (by decide) ?_
    refine lv_icmp_ge (tgt := 90) hx hb dX10_ask_38 (by decide) (fun hc => ?_) (fun hc => ?_)
    · replace h := z_t h hc
      clear hc
      refine lv_iload_n hx hb dX10_ask_90 rfl (lv_at hl 2 rfl) ?_
      cases h
    · replace h := z_f h hc
      clear hc
      refine lv_iload_n hx hb dX10_ask_41 rfl (lv_at hl 1 rfl) ?_
      refine lv_iconst (v := (1 : Int32)) hx hb dX10_ask_42 (by decide) ?_
      refine lv_icmp_le (tgt := 90) hx hb dX10_ask_43 (by decide) (fun hc => ?_) (fun hc => ?_)
      · replace h := z_t h hc
        clear hc
        refine lv_iload_n hx hb dX10_ask_90 rfl (lv_at hl 2 rfl) ?_
        cases h
      · replace h := z_f h hc
        clear hc
        refine lv_iload_n hx hb dX10_ask_46 rfl (lv_at hl 0 rfl) ?_
        refine lv_iconst (v := (2 : Int32)) hx hb dX10_ask_47 (by decide) ?_
        refine lv_iload hx hb dX10_ask_48 (lv_at hl 4 rfl) ?_
        refine lv_ishl hx hb dX10_ask_50 ?_
        refine lv_iconst (v := (1 : Int32)) hx hb dX10_ask_51 (by decide) ?_
        refine lv_isub hx hb dX10_ask_52 ?_
        refine lv_iand hx hb dX10_ask_53 ?_
        obtain ⟨r8, hq⟩ : ∃ y, f_J6_bitCount_0f7a4 (x1 &&& (((2 : Int32) <<< (x5 &&& 31)) - (1 : Int32))) u = y := ⟨_, rfl⟩
        replace h := z_lz h hq
        refine z_csi (As := [.int (x1 &&& (((2 : Int32) <<< (x5 &&& 31)) - (1 : Int32)))]) C0 hml hl.1 hW hS (c_J6_bitCount_0f7a4 l D A b (zg G q) (x1 &&& (((2 : Int32) <<< (x5 &&& 31)) - (1 : Int32))) u hq) ms_X10_231 ⟨Nat.le_of_ble_eq_true rfl, Nat.le_of_ble_eq_true rfl⟩ rfl rfl (Nat.le_of_ble_eq_true rfl) dX10_ask_54 (fun H locs hW hS => ?_)
        clear hq
        refine lv_istore (lv' := [(6, .int r8), (1, .int x1), (2, .int x2), (3, .int x3), (4, .int x4), (5, .int x5)]) hx hb dX10_ask_57 hl (by decide) rfl (fun ls hl => ?_)
        refine lv_iload hx hb dX10_ask_59 (lv_at hl 0 rfl) ?_
        refine lv_iload_n hx hb dX10_ask_61 rfl (lv_at hl 2 rfl) ?_
        refine lv_iload hx hb dX10_ask_62 (lv_at hl 0 rfl) ?_
        refine lv_isub hx hb dX10_ask_64 ?_
        refine va_mmax hx hb (hml.trans hl.1.symm) C0.2.2.2.1 (C0.2.2.1 _ w_mm_X10_373) (C0.2.2.1 _ w_mst_max) (C0.2.2.1 _ w_min_Math) (C0.2.2.1 _ w_mco_max) (Nat.le_of_ble_eq_true rfl) (Nat.le_of_ble_eq_true rfl) (Nat.zero_le _) (Nat.zero_le _) dX10_ask_65 ?_
        refine lv_topi (fun z9 e1 => ?_)
        replace h := z_ly h e1
        clear e1
        refine lv_istore (lv' := [(7, .int z9), (6, .int r8), (1, .int x1), (2, .int x2), (3, .int x3), (4, .int x4), (5, .int x5)]) hx hb dX10_ask_68 hl (by decide) rfl (fun ls hl => ?_)
        refine lv_iload hx hb dX10_ask_70 (lv_at hl 0 rfl) ?_
        refine lv_iload hx hb dX10_ask_72 (lv_at hl 5 rfl) ?_
        refine lv_icmp_ge (tgt := 84) hx hb dX10_ask_74 (by decide) (fun hc => ?_) (fun hc => ?_)
        · replace h := z_t h hc
          clear hc
          refine lv_iinc (v := x5 + (1 : Int32)) (lv' := [(5, .int (x5 + (1 : Int32))), (7, .int z9), (6, .int r8), (1, .int x1), (2, .int x2), (3, .int x3), (4, .int x4)]) hx hb dX10_ask_84 hl (k := 6) rfl rfl (by decide) rfl (fun ls hl => ?_)
          refine lv_goto (tgt := 35) hx hb dX10_ask_87 (by decide) ?_
          exact ih _ _ _ _ _ _ _ _ _ h hW hS (lv_sub hl [3, 4, 5, 6, 0] rfl)
        · replace h := z_f h hc
          clear hc
          refine lv_iload hx hb dX10_ask_77 (lv_at hl 6 rfl) ?_
          refine lv_istore_n (lv' := [(3, .int x5), (7, .int z9), (6, .int r8), (1, .int x1), (2, .int x2), (4, .int x4), (5, .int x5)]) hx hb dX10_ask_79 rfl hl (by decide) rfl (fun ls hl => ?_)
          refine lv_iload hx hb dX10_ask_80 (lv_at hl 1 rfl) ?_
          refine lv_istore (lv' := [(4, .int z9), (3, .int x5), (7, .int z9), (6, .int r8), (1, .int x1), (2, .int x2), (5, .int x5)]) hx hb dX10_ask_82 hl (by decide) rfl (fun ls hl => ?_)
          refine lv_iinc (v := x5 + (1 : Int32)) (lv' := [(5, .int (x5 + (1 : Int32))), (4, .int z9), (3, .int x5), (7, .int z9), (6, .int r8), (1, .int x1), (2, .int x2)]) hx hb dX10_ask_84 hl (k := 6) rfl rfl (by decide) rfl (fun ls hl => ?_)
          refine lv_goto (tgt := 35) hx hb dX10_ask_87 (by decide) ?_
          exact ih _ _ _ _ _ _ _ _ _ h hW hS (lv_sub hl [5, 6, 2, 1, 0] rfl)
set_option maxRecDepth 100000 in
set_option maxHeartbeats 4000000 in
theorem t_X10_ask (l : Launch) (D : zD) (A : Nat → Prop) (b : Nat) (G : zG) (q : zq) (hT : zTop G q) (hst : l.stackTraces = false)  (u : zU) {E : String} {q' : zq} {u' : zU} (h : f_X10_ask q u = some (.inl E, q', u')) : z_TX l D A b G yX10_ask cX10_ask 8 (some .int) 8 134 [.ref (b + 0)] q u E q' u' := by
  refine z_enterX (by decide) (Nat.le_of_ble_eq_true rfl) ?_
  intro p e s m below meth c ls C0 hex hml hlk hW hS hl
  have hl : lv_has ls 8 [(0, .ref (b + 0))] := hl
  have hx := C0.1
  have hb := C0.2.1
  have hs := hT.1
  rw [f_X10_ask_e] at h
  refine lv_aload_n hx hb dX10_ask_0 rfl (lv_at hl 0 rfl) ?_
  replace h := z_bxd h
  rcases h with ⟨E1, hq, hE⟩ | ⟨w1, q3, u2, hq, h⟩
  · cases hE
    exact z_cvX (As := []) C0 hml hl.1 hW hS hex hlk (t_X10_needFires l D A b G (q) hT hst u hq) mv_X10_392 (zk1 (hs 0 (by decide))) ⟨Nat.le_of_ble_eq_true rfl, Nat.le_of_ble_eq_true rfl⟩ ⟨Nat.le_of_ble_eq_true rfl, Nat.le_of_ble_eq_true rfl⟩ rfl rfl (Nat.le_of_ble_eq_true rfl) dX10_ask_1
  · refine z_cvTv (As := []) C0 hml hl.1 hW hS (c_X10_needFires l D A b G (q) hT u hq) mv_X10_392 (zk1 (hs 0 (by decide))) ⟨Nat.le_of_ble_eq_true rfl, Nat.le_of_ble_eq_true rfl⟩ rfl rfl (Nat.le_of_ble_eq_true rfl) dX10_ask_1 (fun H locs hW hS hT => ?_)
    clear hq
    have hs := hT.1
    refine lv_aload_n hx hb dX10_ask_4 rfl (lv_at hl 0 rfl) ?_
    refine z_getr (o := 1) C0 hW fl_X10_10 (zk1 (hs 0 (by decide))) rfl (zk3 (hs 0 (by decide)) 0) dX10_ask_5 ?_
    replace h := z_bd h
    obtain ⟨r4, hq, h⟩ := h
    refine z_cvi (As := []) C0 hml hl.1 hW hS (c_X7_fireHeights l D A b (zg G q3) hs u2 hq) mv_X10_395 (zk1 (hs 1 (by decide))) ⟨Nat.le_of_ble_eq_true rfl, Nat.le_of_ble_eq_true rfl⟩ rfl rfl (Nat.le_of_ble_eq_true rfl) dX10_ask_8 (fun H locs hW hS => ?_)
    clear hq
    refine lv_istore_n (lv' := [(1, .int r4), (0, .ref (b + 0))]) hx hb dX10_ask_11 rfl hl (by decide) rfl (fun ls hl => ?_)
    refine lv_aload_n hx hb dX10_ask_12 rfl (lv_at hl 1 rfl) ?_
    refine z_getr (o := 1) C0 hW fl_X10_10 (zk1 (hs 0 (by decide))) rfl (zk3 (hs 0 (by decide)) 0) dX10_ask_13 ?_
    refine lv_iconst (v := (0 : Int32)) hx hb dX10_ask_16 (by decide) ?_
    refine z_puti C0 hW hS fl_X10_85 (zk1 (hs 1 (by decide))) rfl rfl rfl dX10_ask_17 (fun H locs u5 e1 hW hS => ?_)
    replace h := z_ly h e1
    clear e1
    refine lv_iload_n hx hb dX10_ask_20 rfl (lv_at hl 0 rfl) ?_
    obtain ⟨r6, hq⟩ : ∃ y, f_J6_bitCount_0f7a4 r4 u5 = y := ⟨_, rfl⟩
    replace h := z_lz h hq
    refine z_csi (As := [.int r4]) C0 hml hl.1 hW hS (c_J6_bitCount_0f7a4 l D A b (zg G q3) r4 u5 hq) ms_X10_231 ⟨Nat.le_of_ble_eq_true rfl, Nat.le_of_ble_eq_true rfl⟩ rfl rfl (Nat.le_of_ble_eq_true rfl) dX10_ask_21 (fun H locs hW hS => ?_)
    clear hq
    refine lv_istore_n (lv' := [(2, .int r6), (1, .int r4), (0, .ref (b + 0))]) hx hb dX10_ask_24 rfl hl (by decide) rfl (fun ls hl => ?_)
    refine lv_iconst (v := (-1 : Int32)) hx hb dX10_ask_25 (by decide) ?_
    refine lv_istore_n (lv' := [(3, .int (-1 : Int32)), (2, .int r6), (1, .int r4), (0, .ref (b + 0))]) hx hb dX10_ask_26 rfl hl (by decide) rfl (fun ls hl => ?_)
    refine lv_iload_n hx hb dX10_ask_27 rfl (lv_at hl 1 rfl) ?_
    refine lv_iconst (v := (1 : Int32)) hx hb dX10_ask_28 (by decide) ?_
    refine lv_iadd hx hb dX10_ask_29 ?_
    refine lv_topi (fun z7 e1 => ?_)
    replace h := z_ly h e1
    clear e1
    refine lv_istore (lv' := [(4, .int z7), (3, .int (-1 : Int32)), (2, .int r6), (1, .int r4), (0, .ref (b + 0))]) hx hb dX10_ask_30 hl (by decide) rfl (fun ls hl => ?_)
    refine lv_iconst (v := (0 : Int32)) hx hb dX10_ask_32 (by decide) ?_
    refine lv_istore (lv' := [(5, .int (0 : Int32)), (4, .int z7), (3, .int (-1 : Int32)), (2, .int r6), (1, .int r4), (0, .ref (b + 0))]) hx hb dX10_ask_33 hl (by decide) rfl (fun ls hl => ?_)
    exact lx_X10_ask_35 C0 hex hml hlk hT hst 5000 _ _ _ _ _ _ _ _ _ h hW hS (lv_sub hl [4, 3, 2, 1, 0] rfl)
