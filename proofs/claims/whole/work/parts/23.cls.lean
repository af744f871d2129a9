def f_X9_draw (w : Nat) (L : Nat → Nat)  (u : zU) : Int32 × zU :=
  z_let (z_up u w 16 (((1103515245 : Int32) * (u w 16)) + (12345 : Int32))) (fun u1 => ((z_ushr (u1 w 16) (16 : Int32)) &&& (32767 : Int32), u1))
theorem f_X9_draw_e (w : Nat) (L : Nat → Nat)  (u : zU) : f_X9_draw w L u = z_let (z_up u w 16 (((1103515245 : Int32) * (u w 16)) + (12345 : Int32))) (fun u1 => ((z_ushr (u1 w 16) (16 : Int32)) &&& (32767 : Int32), u1)) := rfl
set_option maxRecDepth 100000 in
set_option maxHeartbeats 4000000 in
theorem c_X9_draw (l : Launch) (D : zD) (A : Nat → Prop) (b : Nat) (g : zG) (w : Nat) (L : Nat → Nat) (hw : zWh g w L)  (u : zU) {v : Int32} {u' : zU} (h : f_X9_draw w L u = (v, u')) : z_M l D A b g yX9_draw cX9_draw 1 (some .int) 0 0 [.ref (b + w)] u (some (.int v)) u' := by
  refine z_enter (by decide) (Nat.le_of_ble_eq_true rfl) ?_
  intro p e s m below meth c ls C0 hr hml hlk hW hS hl
  have hl : lv_has ls 1 [(0, .ref (b + w))] := hl
  have hx := C0.1
  have hb := C0.2.1
  rw [f_X9_draw_e] at h
  refine lv_aload_n hx hb dX9_draw_0 rfl (lv_at hl 0 rfl) ?_
  refine lv_ldc (own := yX9_draw.cls) (v := (1103515245 : Int32)) hx hb C0.2.2.2.1 (C0.2.2.1 _ k_X9_124) dX9_draw_1 ?_
  refine lv_aload_n hx hb dX9_draw_3 rfl (lv_at hl 0 rfl) ?_
  refine z_geti C0 hW fl_X9_61 hw.1 rfl dX9_draw_4 ?_
  refine lv_imul hx hb dX9_draw_7 ?_
  refine lv_sipush (v := (12345 : Int32)) hx hb dX9_draw_8 (by decide) ?_
  refine lv_iadd hx hb dX9_draw_11 ?_
  refine z_puti C0 hW hS fl_X9_61 hw.1 rfl rfl rfl dX9_draw_12 (fun H locs u1 e1 hW hS => ?_)
  replace h := z_ly h e1
  clear e1
  refine lv_aload_n hx hb dX9_draw_15 rfl (lv_at hl 0 rfl) ?_
  refine z_geti C0 hW fl_X9_61 hw.1 rfl dX9_draw_16 ?_
  refine lv_bipush (v := (16 : Int32)) hx hb dX9_draw_19 (by decide) ?_
  refine lv_iushr (v := z_ushr (u1 w 16) (16 : Int32)) hx hb dX9_draw_21 rfl ?_
  refine lv_sipush (v := (32767 : Int32)) hx hb dX9_draw_22 (by decide) ?_
  refine lv_iand hx hb dX9_draw_25 ?_
  cases h
  exact z_iret C0 hr hlk hW hS dX9_draw_26
def f_X9_firstWithMoney_2 (w : Nat) (L : Nat → Nat) : Nat → Int32 → zU → Option (Int32)
  | 0, _, _ => none
  | n + 1, x1, u =>
    if (u w 9) ≤ x1 then (some (-1 : Int32)) else (if z_in x1 8 = true then (z_let (u (w + 5) (x1).toNatClampNeg) (fun z1 => if z_in (z1 &&& (7 : Int32)) 8 = true then (z_let (u (w + 3) (z1 &&& (7 : Int32)).toNatClampNeg) (fun z2 => if z2 ≤ 0 then (f_X9_firstWithMoney_2 w L n (x1 + (1 : Int32)) u) else (if z_in x1 8 = true then (z_let (u (w + 5) (x1).toNatClampNeg) (fun z3 => some z3)) else none))) else none)) else none)
theorem f_X9_firstWithMoney_2_s (w : Nat) (L : Nat → Nat) (n : Nat) (x1 : Int32) (u : zU) : f_X9_firstWithMoney_2 w L (n + 1) x1 u = if (u w 9) ≤ x1 then (some (-1 : Int32)) else (if z_in x1 8 = true then (z_let (u (w + 5) (x1).toNatClampNeg) (fun z1 => if z_in (z1 &&& (7 : Int32)) 8 = true then (z_let (u (w + 3) (z1 &&& (7 : Int32)).toNatClampNeg) (fun z2 => if z2 ≤ 0 then (f_X9_firstWithMoney_2 w L n (x1 + (1 : Int32)) u) else (if z_in x1 8 = true then (z_let (u (w + 5) (x1).toNatClampNeg) (fun z3 => some z3)) else none))) else none)) else none) := rfl
def f_X9_firstWithMoney (w : Nat) (L : Nat → Nat)  (u : zU) : Option (Int32) :=
  f_X9_firstWithMoney_2 w L 5000 (0 : Int32) u
set_option maxRecDepth 100000 in
set_option maxHeartbeats 4000000 in
theorem l_X9_firstWithMoney_2 {l : Launch} {D : zD} {A : Nat → Prop} {b : Nat} {p : Program} {e : Env} {s : State} {m : MethodId} {args : Array Value} {below : List Frame} {meth : Method} {c : Code} {g : zG} {w : Nat} {L : Nat → Nat} {v : Int32} {u : zU} (C0 : z_C p c cX9_firstWithMoney s m args yX9_firstWithMoney.cls D A) (hr : meth.sig.returnType = (some .int)) (hml : c.maxLocals = 2) (hlk : meth.locks = false) (hw : zWh g w L) : ∀ (n : Nat) (x1 : Int32) (H : Heap) (locs : List Loc) (ls : Array Slot), f_X9_firstWithMoney_2 w L n x1 u = some v → z_W D A b g u H → va_S A s.heap H locs → lv_has ls 2 [(0, .ref (b + w)), (1, .int x1)] → W p l e { frames := 0, cells := 0, slots := 0, locals := 0 } s m args below meth c H locs 0 0 (z_End D A b g below args s (some (.int v)) u) (F0 m 2 ls []) := by
  have hx := C0.1
  have hb := C0.2.1
  intro n
  induction n with
  | zero => intro x1 H locs ls h hW hS hl; cases h
  | succ n ih =>
    intro x1 H locs ls h hW hS hl
    rw [f_X9_firstWithMoney_2_s] at h
    refine lv_iload_n hx hb dX9_firstWithMoney_2 rfl (lv_at hl 1 rfl) ?_
    refine lv_aload_n hx hb dX9_firstWithMoney_3 rfl (lv_at hl 0 rfl) ?_
    refine z_geti C0 hW fl_X9_40 hw.1 rfl dX9_firstWithMoney_4 ?_
    refine lv_icmp_ge (tgt := 40) hx hb dX9_firstWithMoney_7 (by decide) (fun hc => ?_) (fun hc => ?_)
    · replace h := z_t h hc
      clear hc
      refine lv_iconst (v := (-1 : Int32)) hx hb dX9_firstWithMoney_40 (by decide) ?_
      cases h
      exact z_iret C0 hr hlk hW hS dX9_firstWithMoney_41
    · replace h := z_f h hc
      clear hc
      refine lv_aload_n hx hb dX9_firstWithMoney_10 rfl (lv_at hl 0 rfl) ?_
      refine z_getr (o := w + 3) C0 hW fl_X9_18 hw.1 rfl (hw.2.1 2 (by decide)).1 dX9_firstWithMoney_11 ?_
      refine lv_aload_n hx hb dX9_firstWithMoney_14 rfl (lv_at hl 0 rfl) ?_
      refine z_getr (o := w + 5) C0 hW fl_X9_24 hw.1 rfl (hw.2.1 4 (by decide)).1 dX9_firstWithMoney_15 ?_
      refine lv_iload_n hx hb dX9_firstWithMoney_18 rfl (lv_at hl 1 rfl) ?_
      replace h := z_if h
      obtain ⟨hin, h⟩ := h
      refine z_iald (n := 8) C0 hW (hw.2.1 4 (by decide)).2.1 (hw.2.1 4 (by decide)).2.2 hin rfl dX9_firstWithMoney_19 ?_
      clear hin
      refine lv_topi (fun z1 e1 => ?_)
      replace h := z_ly h e1
      clear e1
      refine lv_bipush (v := (7 : Int32)) hx hb dX9_firstWithMoney_20 (by decide) ?_
      refine lv_iand hx hb dX9_firstWithMoney_22 ?_
      replace h := z_if h
      obtain ⟨hin, h⟩ := h
      refine z_iald (n := 8) C0 hW (hw.2.1 2 (by decide)).2.1 (hw.2.1 2 (by decide)).2.2 hin rfl dX9_firstWithMoney_23 ?_
      clear hin
      refine lv_topi (fun z2 e1 => ?_)
      replace h := z_ly h e1
      clear e1
      refine lv_if_le (tgt := 34) hx hb dX9_firstWithMoney_24 (by decide) (fun hc => ?_) (fun hc => ?_)
      · replace h := z_t h hc
        clear hc
        refine lv_iinc (v := x1 + (1 : Int32)) (lv' := [(1, .int (x1 + (1 : Int32))), (0, .ref (b + w))]) hx hb dX9_firstWithMoney_34 hl (k := 1) rfl rfl (by decide) rfl (fun ls hl => ?_)
        refine lv_goto (tgt := 2) hx hb dX9_firstWithMoney_37 (by decide) ?_
        exact ih _ _ _ _ h hW hS (lv_sub hl [1, 0] rfl)
      · replace h := z_f h hc
        clear hc
        refine lv_aload_n hx hb dX9_firstWithMoney_27 rfl (lv_at hl 0 rfl) ?_
        refine z_getr (o := w + 5) C0 hW fl_X9_24 hw.1 rfl (hw.2.1 4 (by decide)).1 dX9_firstWithMoney_28 ?_
        refine lv_iload_n hx hb dX9_firstWithMoney_31 rfl (lv_at hl 1 rfl) ?_
        replace h := z_if h
        obtain ⟨hin, h⟩ := h
        refine z_iald (n := 8) C0 hW (hw.2.1 4 (by decide)).2.1 (hw.2.1 4 (by decide)).2.2 hin rfl dX9_firstWithMoney_32 ?_
        clear hin
        refine lv_topi (fun z3 e1 => ?_)
        replace h := z_ly h e1
        clear e1
        cases h
        exact z_iret C0 hr hlk hW hS dX9_firstWithMoney_33
theorem f_X9_firstWithMoney_e (w : Nat) (L : Nat → Nat)  (u : zU) : f_X9_firstWithMoney w L u = f_X9_firstWithMoney_2 w L 5000 (0 : Int32) u := rfl
set_option maxRecDepth 100000 in
set_option maxHeartbeats 4000000 in
theorem c_X9_firstWithMoney (l : Launch) (D : zD) (A : Nat → Prop) (b : Nat) (g : zG) (w : Nat) (L : Nat → Nat) (hw : zWh g w L)  (u : zU) {v : Int32} (h : f_X9_firstWithMoney w L u = some v) : z_M l D A b g yX9_firstWithMoney cX9_firstWithMoney 2 (some .int) 0 0 [.ref (b + w)] u (some (.int v)) u := by
  refine z_enter (by decide) (Nat.le_of_ble_eq_true rfl) ?_
  intro p e s m below meth c ls C0 hr hml hlk hW hS hl
  have hl : lv_has ls 2 [(0, .ref (b + w))] := hl
  have hx := C0.1
  have hb := C0.2.1
  rw [f_X9_firstWithMoney_e] at h
  refine lv_iconst (v := (0 : Int32)) hx hb dX9_firstWithMoney_0 (by decide) ?_
  refine lv_istore_n (lv' := [(1, .int (0 : Int32)), (0, .ref (b + w))]) hx hb dX9_firstWithMoney_1 rfl hl (by decide) rfl (fun ls hl => ?_)
  exact l_X9_firstWithMoney_2 C0 hr hml hlk hw 5000 _ _ _ _ h hW hS (lv_sub hl [1, 0] rfl)
def f_X9_blow_43 (w : Nat) (L : Nat → Nat) : Nat → Int32 → Int32 → zU → Option (zU)
  | 0, _, _, _ => none
  | n + 1, x1, x2, u =>
    if (u w 8) ≤ x2 then (some u) else (if z_in x1 8 = true then (z_let (u (w + 6) (x1).toNatClampNeg) (fun z9 => if z9 = 0 then (if z_in x2 8 = true then (z_let (u (w + 1) (x2).toNatClampNeg) (fun z10 => if z10 = x1 then ((f_X9_getOff w L x2 u).bind (fun u11 => f_X9_blow_43 w L n x1 (x2 + (1 : Int32)) u11)) else (f_X9_blow_43 w L n x1 (x2 + (1 : Int32)) u))) else none) else (f_X9_blow_43 w L n x1 (x2 + (1 : Int32)) u))) else none)
theorem f_X9_blow_43_s (w : Nat) (L : Nat → Nat) (n : Nat) (x1 : Int32) (x2 : Int32) (u : zU) : f_X9_blow_43 w L (n + 1) x1 x2 u = if (u w 8) ≤ x2 then (some u) else (if z_in x1 8 = true then (z_let (u (w + 6) (x1).toNatClampNeg) (fun z9 => if z9 = 0 then (if z_in x2 8 = true then (z_let (u (w + 1) (x2).toNatClampNeg) (fun z10 => if z10 = x1 then ((f_X9_getOff w L x2 u).bind (fun u11 => f_X9_blow_43 w L n x1 (x2 + (1 : Int32)) u11)) else (f_X9_blow_43 w L n x1 (x2 + (1 : Int32)) u))) else none) else (f_X9_blow_43 w L n x1 (x2 + (1 : Int32)) u))) else none) := rfl
def f_X9_blow (w : Nat) (L : Nat → Nat)  (u : zU) : Option (zU) :=
  z_let2 (f_X9_draw w L u) (fun r1 u2 => if (z_rem r1 (100 : Int32)) < (u2 w 13) then (z_let2 (f_X9_draw w L u2) (fun r3 u4 => z_let (r3 &&& (7 : Int32)) (fun z5 => if z_in z5 8 = true then (z_let (u4 (w + 6) (z5).toNatClampNeg) (fun z6 => z_let (z_max (0 : Int32) (z6 - (1 : Int32))) (fun z7 => if z_in z5 8 = true then (z_let (z_up u4 (w + 6) (z5).toNatClampNeg z7) (fun u8 => f_X9_blow_43 w L 5000 z5 (0 : Int32) u8)) else none))) else none))) else (some u2))
set_option maxRecDepth 100000 in
set_option maxHeartbeats 4000000 in
theorem l_X9_blow_43 {l : Launch} {D : zD} {A : Nat → Prop} {b : Nat} {p : Program} {e : Env} {s : State} {m : MethodId} {args : Array Value} {below : List Frame} {meth : Method} {c : Code} {g : zG} {w : Nat} {L : Nat → Nat} {u' : zU} (C0 : z_C p c cX9_blow s m args yX9_blow.cls D A) (hr : meth.sig.returnType = none) (hml : c.maxLocals = 3) (hlk : meth.locks = false) (hw : zWh g w L) : ∀ (n : Nat) (x1 : Int32) (x2 : Int32) (u : zU) (H : Heap) (locs : List Loc) (ls : Array Slot), f_X9_blow_43 w L n x1 x2 u = some u' → z_W D A b g u H → va_S A s.heap H locs → lv_has ls 3 [(0, .ref (b + w)), (1, .int x1), (2, .int x2)] → W p l e { frames := 1, cells := 0, slots := 0, locals := 21 } s m args below meth c H locs 0 0 (z_End D A b g below args s none u') (F0 m 43 ls []) := by
  have hx := C0.1
  have hb := C0.2.1
  intro n
  induction n with
  | zero => intro x1 x2 u H locs ls h hW hS hl; cases h
  | succ n ih =>
    intro x1 x2 u H locs ls h hW hS hl
    rw [f_X9_blow_43_s] at h
    refine lv_iload_n hx hb dX9_blow_43 rfl (lv_at hl 2 rfl) ?_
    refine lv_aload_n hx hb dX9_blow_44 rfl (lv_at hl 0 rfl) ?_
    refine z_geti C0 hW fl_X9_36 hw.1 rfl dX9_blow_45 ?_
    refine lv_icmp_ge (tgt := 81) hx hb dX9_blow_48 (by decide) (fun hc => ?_) (fun hc => ?_)
    · replace h := z_t h hc
      clear hc
      cases h
      exact z_vret C0 hr hlk hW hS dX9_blow_81
    · replace h := z_f h hc
      clear hc
      refine lv_aload_n hx hb dX9_blow_51 rfl (lv_at hl 0 rfl) ?_
      refine z_getr (o := w + 6) C0 hW fl_X9_27 hw.1 rfl (hw.2.1 5 (by decide)).1 dX9_blow_52 ?_
      refine lv_iload_n hx hb dX9_blow_55 rfl (lv_at hl 1 rfl) ?_
      replace h := z_if h
      obtain ⟨hin, h⟩ := h
      refine z_iald (n := 8) C0 hW (hw.2.1 5 (by decide)).2.1 (hw.2.1 5 (by decide)).2.2 hin rfl dX9_blow_56 ?_
      clear hin
      refine lv_topi (fun z9 e1 => ?_)
      replace h := z_ly h e1
      clear e1
      refine lv_if_ne (tgt := 75) hx hb dX9_blow_57 (by decide) (fun hc => ?_) (fun hc => ?_)
      · replace h := z_f h hc
        clear hc
        refine lv_iinc (v := x2 + (1 : Int32)) (lv' := [(2, .int (x2 + (1 : Int32))), (0, .ref (b + w)), (1, .int x1)]) hx hb dX9_blow_75 hl (k := 2) rfl rfl (by decide) rfl (fun ls hl => ?_)
        refine lv_goto (tgt := 43) hx hb dX9_blow_78 (by decide) ?_
        exact ih _ _ _ _ _ _ h hW hS (lv_sub hl [1, 2, 0] rfl)
      · replace h := z_t h hc
        clear hc
        refine lv_aload_n hx hb dX9_blow_60 rfl (lv_at hl 0 rfl) ?_
        refine z_getr (o := w + 1) C0 hW fl_X9_9 hw.1 rfl (hw.2.1 0 (by decide)).1 dX9_blow_61 ?_
        refine lv_iload_n hx hb dX9_blow_64 rfl (lv_at hl 2 rfl) ?_
        replace h := z_if h
        obtain ⟨hin, h⟩ := h
        refine z_iald (n := 8) C0 hW (hw.2.1 0 (by decide)).2.1 (hw.2.1 0 (by decide)).2.2 hin rfl dX9_blow_65 ?_
        clear hin
        refine lv_topi (fun z10 e1 => ?_)
        replace h := z_ly h e1
        clear e1
        refine lv_iload_n hx hb dX9_blow_66 rfl (lv_at hl 1 rfl) ?_
        refine lv_icmp_ne (tgt := 75) hx hb dX9_blow_67 (by decide) (fun hc => ?_) (fun hc => ?_)
        · replace h := z_f h hc
          clear hc
          refine lv_iinc (v := x2 + (1 : Int32)) (lv' := [(2, .int (x2 + (1 : Int32))), (0, .ref (b + w)), (1, .int x1)]) hx hb dX9_blow_75 hl (k := 2) rfl rfl (by decide) rfl (fun ls hl => ?_)
          refine lv_goto (tgt := 43) hx hb dX9_blow_78 (by decide) ?_
          exact ih _ _ _ _ _ _ h hW hS (lv_sub hl [1, 2, 0] rfl)
        · replace h := z_t h hc
          clear hc
          refine lv_aload_n hx hb dX9_blow_70 rfl (lv_at hl 0 rfl) ?_
          refine lv_iload_n hx hb dX9_blow_71 rfl (lv_at hl 2 rfl) ?_
          replace h := z_bd h
          obtain ⟨u11, hq, h⟩ := h
          refine z_cvv (As := [.int x2]) C0 hml hl.1 hW hS (c_X9_getOff l D A b g w L hw x2 u hq) mv_X9_100 hw.1 ⟨Nat.le_of_ble_eq_true rfl, Nat.le_of_ble_eq_true rfl⟩ rfl rfl (Nat.le_of_ble_eq_true rfl) dX9_blow_72 (fun H locs hW hS => ?_)
          clear hq
          refine lv_iinc (v := x2 + (1 : Int32)) (lv' := [(2, .int (x2 + (1 : Int32))), (0, .ref (b + w)), (1, .int x1)]) hx hb dX9_blow_75 hl (k := 2) rfl rfl (by decide) rfl (fun ls hl => ?_)
          refine lv_goto (tgt := 43) hx hb dX9_blow_78 (by decide) ?_
          exact ih _ _ _ _ _ _ h hW hS (lv_sub hl [1, 2, 0] rfl)
theorem f_X9_blow_e (w : Nat) (L : Nat → Nat)  (u : zU) : f_X9_blow w L u = z_let2 (f_X9_draw w L u) (fun r1 u2 => if (z_rem r1 (100 : Int32)) < (u2 w 13) then (z_let2 (f_X9_draw w L u2) (fun r3 u4 => z_let (r3 &&& (7 : Int32)) (fun z5 => if z_in z5 8 = true then (z_let (u4 (w + 6) (z5).toNatClampNeg) (fun z6 => z_let (z_max (0 : Int32) (z6 - (1 : Int32))) (fun z7 => if z_in z5 8 = true then (z_let (z_up u4 (w + 6) (z5).toNatClampNeg z7) (fun u8 => f_X9_blow_43 w L 5000 z5 (0 : Int32) u8)) else none))) else none))) else (some u2)) := rfl
set_option maxRecDepth 100000 in
set_option maxHeartbeats 4000000 in
theorem c_X9_blow (l : Launch) (D : zD) (A : Nat → Prop) (b : Nat) (g : zG) (w : Nat) (L : Nat → Nat) (hw : zWh g w L)  (u : zU) {u' : zU} (h : f_X9_blow w L u = some u') : z_M l D A b g yX9_blow cX9_blow 3 none 1 21 [.ref (b + w)] u none u' := by
  refine z_enter (by decide) (Nat.le_of_ble_eq_true rfl) ?_
  intro p e s m below meth c ls C0 hr hml hlk hW hS hl
  have hl : lv_has ls 3 [(0, .ref (b + w))] := hl
  have hx := C0.1
  have hb := C0.2.1
  rw [f_X9_blow_e] at h
  refine lv_aload_n hx hb dX9_blow_0 rfl (lv_at hl 0 rfl) ?_
  obtain ⟨⟨r1, u2⟩, hq⟩ : ∃ y, f_X9_draw w L u = y := ⟨_, rfl⟩
  replace h := z_lz2 h hq
  refine z_cvi (As := []) C0 hml hl.1 hW hS (c_X9_draw l D A b g w L hw u hq) mv_X9_155 hw.1 ⟨Nat.le_of_ble_eq_true rfl, Nat.le_of_ble_eq_true rfl⟩ rfl rfl (Nat.le_of_ble_eq_true rfl) dX9_blow_1 (fun H locs hW hS => ?_)
  clear hq
  refine lv_bipush (v := (100 : Int32)) hx hb dX9_blow_4 (by decide) ?_
  refine lv_irem hx hb dX9_blow_6 (by decide) ?_
  refine lv_aload_n hx hb dX9_blow_7 rfl (lv_at hl 0 rfl) ?_
  refine z_geti C0 hW fl_X9_52 hw.1 rfl dX9_blow_8 ?_
  refine lv_icmp_lt (tgt := 15) hx hb dX9_blow_11 (by decide) (fun hc => ?_) (fun hc => ?_)
  · replace h := z_t h hc
    clear hc
    refine lv_aload_n hx hb dX9_blow_15 rfl (lv_at hl 0 rfl) ?_
    obtain ⟨⟨r3, u4⟩, hq⟩ : ∃ y, f_X9_draw w L u2 = y := ⟨_, rfl⟩
    replace h := z_lz2 h hq
    refine z_cvi (As := []) C0 hml hl.1 hW hS (c_X9_draw l D A b g w L hw u2 hq) mv_X9_155 hw.1 ⟨Nat.le_of_ble_eq_true rfl, Nat.le_of_ble_eq_true rfl⟩ rfl rfl (Nat.le_of_ble_eq_true rfl) dX9_blow_16 (fun H locs hW hS => ?_)
    clear hq
    refine lv_bipush (v := (7 : Int32)) hx hb dX9_blow_19 (by decide) ?_
    refine lv_iand hx hb dX9_blow_21 ?_
    refine lv_topi (fun z5 e1 => ?_)
    replace h := z_ly h e1
    clear e1
    refine lv_istore_n (lv' := [(1, .int z5), (0, .ref (b + w))]) hx hb dX9_blow_22 rfl hl (by decide) rfl (fun ls hl => ?_)
    refine lv_aload_n hx hb dX9_blow_23 rfl (lv_at hl 1 rfl) ?_
    refine z_getr (o := w + 6) C0 hW fl_X9_27 hw.1 rfl (hw.2.1 5 (by decide)).1 dX9_blow_24 ?_
    refine lv_iload_n hx hb dX9_blow_27 rfl (lv_at hl 0 rfl) ?_
    refine lv_iconst (v := (0 : Int32)) hx hb dX9_blow_28 (by decide) ?_
    refine lv_aload_n hx hb dX9_blow_29 rfl (lv_at hl 1 rfl) ?_
    refine z_getr (o := w + 6) C0 hW fl_X9_27 hw.1 rfl (hw.2.1 5 (by decide)).1 dX9_blow_30 ?_
    refine lv_iload_n hx hb dX9_blow_33 rfl (lv_at hl 0 rfl) ?_
    replace h := z_if h
    obtain ⟨hin, h⟩ := h
    refine z_iald (n := 8) C0 hW (hw.2.1 5 (by decide)).2.1 (hw.2.1 5 (by decide)).2.2 hin rfl dX9_blow_34 ?_
    clear hin
    refine lv_topi (fun z6 e1 => ?_)
    replace h := z_ly h e1
    clear e1
    refine lv_iconst (v := (1 : Int32)) hx hb dX9_blow_35 (by decide) ?_
    refine lv_isub hx hb dX9_blow_36 ?_
    refine va_mmax hx hb (hml.trans hl.1.symm) C0.2.2.2.1 (C0.2.2.1 _ w_mm_X9_117) (C0.2.2.1 _ w_mst_max) (C0.2.2.1 _ w_min_Math) (C0.2.2.1 _ w_mco_max) (Nat.le_of_ble_eq_true rfl) (Nat.le_of_ble_eq_true rfl) (Nat.zero_le _) (Nat.zero_le _) dX9_blow_37 ?_
    refine lv_topi (fun z7 e1 => ?_)
    replace h := z_ly h e1
    clear e1
    replace h := z_if h
    obtain ⟨hin, h⟩ := h
    refine z_iast (n := 8) C0 hW hS (hw.2.1 5 (by decide)).2.1 (hw.2.1 5 (by decide)).2.2 hin rfl dX9_blow_40 (fun H locs u8 e1 hW hS => ?_)
    replace h := z_ly h e1
    clear e1
    refine lv_iconst (v := (0 : Int32)) hx hb dX9_blow_41 (by decide) ?_
    refine lv_istore_n (lv' := [(2, .int (0 : Int32)), (1, .int z5), (0, .ref (b + w))]) hx hb dX9_blow_42 rfl hl (by decide) rfl (fun ls hl => ?_)
    exact l_X9_blow_43 C0 hr hml hlk hw 5000 _ _ _ _ _ _ h hW hS (lv_sub hl [2, 1, 0] rfl)
  · replace h := z_f h hc
    clear hc
    cases h
    exact z_vret C0 hr hlk hW hS dX9_blow_14
def f_X2_copy (j : Nat) (j2 : Nat)  (u : zU) : zU :=
  z_let (z_cp u (j2 + 1) (j + 1) 240) (fun u1 => z_let (z_up u1 j 1 (u1 j2 1)) (fun u2 => z_let (z_up u2 j 2 (u2 j2 2)) (fun u3 => u3)))
theorem f_X2_copy_e (j : Nat) (j2 : Nat)  (u : zU) : f_X2_copy j j2 u = z_let (z_cp u (j2 + 1) (j + 1) 240) (fun u1 => z_let (z_up u1 j 1 (u1 j2 1)) (fun u2 => z_let (z_up u2 j 2 (u2 j2 2)) (fun u3 => u3))) := rfl
set_option maxRecDepth 100000 in
set_option maxHeartbeats 4000000 in
theorem c_X2_copy (l : Launch) (D : zD) (A : Nat → Prop) (b : Nat) (g : zG) (j : Nat) (j2 : Nat) (hj : zJn g j) (hj2 : zJn g j2)  (u : zU) {u' : zU} (h : f_X2_copy j j2 u = u') : z_M l D A b g yX2_copy cX2_copy 2 none 1 40 [.ref (b + j), .ref (b + j2)] u none u' := by
  refine z_enter (by decide) (Nat.le_of_ble_eq_true rfl) ?_
  intro p e s m below meth c ls C0 hr hml hlk hW hS hl
  have hl : lv_has ls 2 [(0, .ref (b + j)), (1, .ref (b + j2))] := hl
  have hx := C0.1
  have hb := C0.2.1
  rw [f_X2_copy_e] at h
  refine lv_aload_n hx hb dX2_copy_0 rfl (lv_at hl 1 rfl) ?_
  refine z_getr (o := j2 + 1) C0 hW fl_X2_11 hj2.1 rfl hj2.2.1 dX2_copy_1 ?_
  refine lv_iconst (v := (0 : Int32)) hx hb dX2_copy_4 (by decide) ?_
  refine lv_aload_n hx hb dX2_copy_5 rfl (lv_at hl 0 rfl) ?_
  refine z_getr (o := j + 1) C0 hW fl_X2_11 hj.1 rfl hj.2.1 dX2_copy_6 ?_
  refine lv_iconst (v := (0 : Int32)) hx hb dX2_copy_9 (by decide) ?_
  refine lv_aload_n hx hb dX2_copy_10 rfl (lv_at hl 0 rfl) ?_
  refine z_getr (o := j + 1) C0 hW fl_X2_11 hj.1 rfl hj.2.1 dX2_copy_11 ?_
  refine z_alen (n := 240) (v := (240 : Int32)) C0 hW hj.2.2.1 hj.2.2.2 rfl dX2_copy_14 ?_
  refine z_copyi (n := 240) C0 hml hl.1 hW hS hj2.2.2.1 hj2.2.2.2 hj.2.2.1 hj.2.2.2 ⟨by decide, by decide⟩ ⟨by decide, by decide⟩ w_ac_X2_22 (Nat.le_of_ble_eq_true rfl) (Nat.le_of_ble_eq_true rfl) dX2_copy_15 (fun H locs u1 e1 hW hS => ?_)
  replace h := z_ly h e1
  clear e1
  refine lv_aload_n hx hb dX2_copy_18 rfl (lv_at hl 0 rfl) ?_
  refine lv_aload_n hx hb dX2_copy_19 rfl (lv_at hl 1 rfl) ?_
  refine z_geti C0 hW fl_X2_15 hj2.1 rfl dX2_copy_20 ?_
  refine z_puti C0 hW hS fl_X2_15 hj.1 rfl rfl rfl dX2_copy_23 (fun H locs u2 e1 hW hS => ?_)
  replace h := z_ly h e1
  clear e1
  refine lv_aload_n hx hb dX2_copy_26 rfl (lv_at hl 0 rfl) ?_
  refine lv_aload_n hx hb dX2_copy_27 rfl (lv_at hl 1 rfl) ?_
  refine z_geti C0 hW fl_X2_19 hj2.1 rfl dX2_copy_28 ?_
  refine z_puti C0 hW hS fl_X2_19 hj.1 rfl rfl rfl dX2_copy_31 (fun H locs u3 e1 hW hS => ?_)
  replace h := z_ly h e1
  clear e1
  cases h
  exact z_vret C0 hr hlk hW hS dX2_copy_34
def f_X2_add (j : Nat) (a1 : Int32) (a2 : Int32) (a3 : Int32) (a4 : Int32) (u : zU) : Option (zU) :=
  z_let ((u j 1) * (4 : Int32)) (fun z1 => if z1 < 0 then (z_let (z_up u j 1 (z_rem ((u j 1) + (1 : Int32)) (60 : Int32))) (fun u2 => z_let (z_min (60 : Int32) ((u2 j 2) + (1 : Int32))) (fun z3 => z_let (z_up u2 j 2 z3) (fun u4 => some u4)))) else (if (240 : Int32) < (z1 + (4 : Int32)) then (z_let (z_up u j 1 (z_rem ((u j 1) + (1 : Int32)) (60 : Int32))) (fun u5 => z_let (z_min (60 : Int32) ((u5 j 2) + (1 : Int32))) (fun z6 => z_let (z_up u5 j 2 z6) (fun u7 => some u7)))) else (if z_in z1 240 = true then (z_let (z_up u (j + 1) (z1).toNatClampNeg a1) (fun u8 => if z_in (z1 + (1 : Int32)) 240 = true then (z_let (z_up u8 (j + 1) (z1 + (1 : Int32)).toNatClampNeg a2) (fun u9 => if z_in (z1 + (2 : Int32)) 240 = true then (z_let (z_up u9 (j + 1) (z1 + (2 : Int32)).toNatClampNeg a3) (fun u10 => if z_in (z1 + (3 : Int32)) 240 = true then (z_let (z_up u10 (j + 1) (z1 + (3 : Int32)).toNatClampNeg a4) (fun u11 => z_let (z_up u11 j 1 (z_rem ((u11 j 1) + (1 : Int32)) (60 : Int32))) (fun u12 => z_let (z_min (60 : Int32) ((u12 j 2) + (1 : Int32))) (fun z13 => z_let (z_up u12 j 2 z13) (fun u14 => some u14))))) else none)) else none)) else none)) else none)))
theorem f_X2_add_e (j : Nat) (a1 : Int32) (a2 : Int32) (a3 : Int32) (a4 : Int32) (u : zU) : f_X2_add j a1 a2 a3 a4 u = z_let ((u j 1) * (4 : Int32)) (fun z1 => if z1 < 0 then (z_let (z_up u j 1 (z_rem ((u j 1) + (1 : Int32)) (60 : Int32))) (fun u2 => z_let (z_min (60 : Int32) ((u2 j 2) + (1 : Int32))) (fun z3 => z_let (z_up u2 j 2 z3) (fun u4 => some u4)))) else (if (240 : Int32) < (z1 + (4 : Int32)) then (z_let (z_up u j 1 (z_rem ((u j 1) + (1 : Int32)) (60 : Int32))) (fun u5 => z_let (z_min (60 : Int32) ((u5 j 2) + (1 : Int32))) (fun z6 => z_let (z_up u5 j 2 z6) (fun u7 => some u7)))) else (if z_in z1 240 = true then (z_let (z_up u (j + 1) (z1).toNatClampNeg a1) (fun u8 => if z_in (z1 + (1 : Int32)) 240 = true then (z_let (z_up u8 (j + 1) (z1 + (1 : Int32)).toNatClampNeg a2) (fun u9 => if z_in (z1 + (2 : Int32)) 240 = true then (z_let (z_up u9 (j + 1) (z1 + (2 : Int32)).toNatClampNeg a3) (fun u10 => if z_in (z1 + (3 : Int32)) 240 = true then (z_let (z_up u10 (j + 1) (z1 + (3 : Int32)).toNatClampNeg a4) (fun u11 => z_let (z_up u11 j 1 (z_rem ((u11 j 1) + (1 : Int32)) (60 : Int32))) (fun u12 => z_let (z_min (60 : Int32) ((u12 j 2) + (1 : Int32))) (fun z13 => z_let (z_up u12 j 2 z13) (fun u14 => some u14))))) else none)) else none)) else none)) else none))) := rfl
set_option maxRecDepth 100000 in
set_option maxHeartbeats 4000000 in
theorem c_X2_add (l : Launch) (D : zD) (A : Nat → Prop) (b : Nat) (g : zG) (j : Nat) (hj : zJn g j) (a1 : Int32) (a2 : Int32) (a3 : Int32) (a4 : Int32) (u : zU) {u' : zU} (h : f_X2_add j a1 a2 a3 a4 u = some u') : z_M l D A b g yX2_add cX2_add 6 none 1 21 [.ref (b + j), .int a1, .int a2, .int a3, .int a4] u none u' := by
  refine z_enter (by decide) (Nat.le_of_ble_eq_true rfl) ?_
  intro p e s m below meth c ls C0 hr hml hlk hW hS hl
  have hl : lv_has ls 6 [(0, .ref (b + j)), (1, .int a1), (2, .int a2), (3, .int a3), (4, .int a4)] := hl
  have hx := C0.1
  have hb := C0.2.1
  rw [f_X2_add_e] at h
  refine lv_aload_n hx hb dX2_add_0 rfl (lv_at hl 0 rfl) ?_
  refine z_geti C0 hW fl_X2_15 hj.1 rfl dX2_add_1 ?_
  refine lv_iconst (v := (4 : Int32)) hx hb dX2_add_4 (by decide) ?_
  refine lv_imul hx hb dX2_add_5 ?_
  refine lv_topi (fun z1 e1 => ?_)
  replace h := z_ly h e1
  clear e1
  refine lv_istore (lv' := [(5, .int z1), (0, .ref (b + j)), (1, .int a1), (2, .int a2), (3, .int a3), (4, .int a4)]) hx hb dX2_add_6 hl (by decide) rfl (fun ls hl => ?_)
  refine lv_iload hx hb dX2_add_8 (lv_at hl 0 rfl) ?_
  refine lv_if_lt (tgt := 64) hx hb dX2_add_10 (by decide) (fun hc => ?_) (fun hc => ?_)
  · replace h := z_t h hc
    clear hc
    refine lv_aload_n hx hb dX2_add_64 rfl (lv_at hl 1 rfl) ?_
    refine lv_aload_n hx hb dX2_add_65 rfl (lv_at hl 1 rfl) ?_
    refine z_geti C0 hW fl_X2_15 hj.1 rfl dX2_add_66 ?_
    refine lv_iconst (v := (1 : Int32)) hx hb dX2_add_69 (by decide) ?_
    refine lv_iadd hx hb dX2_add_70 ?_
    refine lv_bipush (v := (60 : Int32)) hx hb dX2_add_71 (by decide) ?_
    refine lv_irem hx hb dX2_add_73 (by decide) ?_
    refine z_puti C0 hW hS fl_X2_15 hj.1 rfl rfl rfl dX2_add_74 (fun H locs u2 e1 hW hS => ?_)
    replace h := z_ly h e1
    clear e1
    refine lv_aload_n hx hb dX2_add_77 rfl (lv_at hl 1 rfl) ?_
    refine lv_bipush (v := (60 : Int32)) hx hb dX2_add_78 (by decide) ?_
    refine lv_aload_n hx hb dX2_add_80 rfl (lv_at hl 1 rfl) ?_
    refine z_geti C0 hW fl_X2_19 hj.1 rfl dX2_add_81 ?_
    refine lv_iconst (v := (1 : Int32)) hx hb dX2_add_84 (by decide) ?_
    refine lv_iadd hx hb dX2_add_85 ?_
    refine va_mmin hx hb (hml.trans hl.1.symm) C0.2.2.2.1 (C0.2.2.1 _ w_mm_X2_28) (C0.2.2.1 _ w_mst_min) (C0.2.2.1 _ w_min_Math) (C0.2.2.1 _ w_mco_min) (Nat.le_of_ble_eq_true rfl) (Nat.le_of_ble_eq_true rfl) (Nat.zero_le _) (Nat.zero_le _) dX2_add_86 ?_
    refine lv_topi (fun z3 e1 => ?_)
    replace h := z_ly h e1
    clear e1
    refine z_puti C0 hW hS fl_X2_19 hj.1 rfl rfl rfl dX2_add_89 (fun H locs u4 e1 hW hS => ?_)
    replace h := z_ly h e1
    clear e1
    cases h
    exact z_vret C0 hr hlk hW hS dX2_add_92
  · replace h := z_f h hc
    clear hc
    refine lv_iload hx hb dX2_add_13 (lv_at hl 0 rfl) ?_
    refine lv_iconst (v := (4 : Int32)) hx hb dX2_add_15 (by decide) ?_
    refine lv_iadd hx hb dX2_add_16 ?_
    refine lv_aload_n hx hb dX2_add_17 rfl (lv_at hl 1 rfl) ?_
    refine z_getr (o := j + 1) C0 hW fl_X2_11 hj.1 rfl hj.2.1 dX2_add_18 ?_
    refine z_alen (n := 240) (v := (240 : Int32)) C0 hW hj.2.2.1 hj.2.2.2 rfl dX2_add_21 ?_
    refine lv_icmp_gt (tgt := 64) hx hb dX2_add_22 (by decide) (fun hc => ?_) (fun hc => ?_)
    · replace h := z_t h hc
      clear hc
      refine lv_aload_n hx hb dX2_add_64 rfl (lv_at hl 1 rfl) ?_
      refine lv_aload_n hx hb dX2_add_65 rfl (lv_at hl 1 rfl) ?_
      refine z_geti C0 hW fl_X2_15 hj.1 rfl dX2_add_66 ?_
      refine lv_iconst (v := (1 : Int32)) hx hb dX2_add_69 (by decide) ?_
      refine lv_iadd hx hb dX2_add_70 ?_
      refine lv_bipush (v := (60 : Int32)) hx hb dX2_add_71 (by decide) ?_
      refine lv_irem hx hb dX2_add_73 (by decide) ?_
      refine z_puti C0 hW hS fl_X2_15 hj.1 rfl rfl rfl dX2_add_74 (fun H locs u5 e1 hW hS => ?_)
      replace h := z_ly h e1
      clear e1
      refine lv_aload_n hx hb dX2_add_77 rfl (lv_at hl 1 rfl) ?_
      refine lv_bipush (v := (60 : Int32)) hx hb dX2_add_78 (by decide) ?_
      refine lv_aload_n hx hb dX2_add_80 rfl (lv_at hl 1 rfl) ?_
      refine z_geti C0 hW fl_X2_19 hj.1 rfl dX2_add_81 ?_
      refine lv_iconst (v := (1 : Int32)) hx hb dX2_add_84 (by decide) ?_
      refine lv_iadd hx hb dX2_add_85 ?_
      refine va_mmin hx hb (hml.trans hl.1.symm) C0.2.2.2.1 (C0.2.2.1 _ w_mm_X2_28) (C0.2.2.1 _ w_mst_min) (C0.2.2.1 _ w_min_Math) (C0.2.2.1 _ w_mco_min) (Nat.le_of_ble_eq_true rfl) (Nat.le_of_ble_eq_true rfl) (Nat.zero_le _) (Nat.zero_le _) dX2_add_86 ?_
      refine lv_topi (fun z6 e1 => ?_)
      replace h := z_ly h e1
      clear e1
      refine z_puti C0 hW hS fl_X2_19 hj.1 rfl rfl rfl dX2_add_89 (fun H locs u7 e1 hW hS => ?_)
      replace h := z_ly h e1
      clear e1
      cases h
      exact z_vret C0 hr hlk hW hS dX2_add_92
    · replace h := z_f h hc
      clear hc
      refine lv_aload_n hx hb dX2_add_25 rfl (lv_at hl 1 rfl) ?_
      refine z_getr (o := j + 1) C0 hW fl_X2_11 hj.1 rfl hj.2.1 dX2_add_26 ?_
      refine lv_iload hx hb dX2_add_29 (lv_at hl 0 rfl) ?_
      refine lv_iload_n hx hb dX2_add_31 rfl (lv_at hl 2 rfl) ?_
      replace h := z_if h
      obtain ⟨hin, h⟩ := h
      refine z_iast (n := 240) C0 hW hS hj.2.2.1 hj.2.2.2 hin rfl dX2_add_32 (fun H locs u8 e1 hW hS => ?_)
      replace h := z_ly h e1
      clear e1
      refine lv_aload_n hx hb dX2_add_33 rfl (lv_at hl 1 rfl) ?_
      refine z_getr (o := j + 1) C0 hW fl_X2_11 hj.1 rfl hj.2.1 dX2_add_34 ?_
      refine lv_iload hx hb dX2_add_37 (lv_at hl 0 rfl) ?_
      refine lv_iconst (v := (1 : Int32)) hx hb dX2_add_39 (by decide) ?_
      refine lv_iadd hx hb dX2_add_40 ?_
      refine lv_iload_n hx hb dX2_add_41 rfl (lv_at hl 3 rfl) ?_
      replace h := z_if h
      obtain ⟨hin, h⟩ := h
      refine z_iast (n := 240) C0 hW hS hj.2.2.1 hj.2.2.2 hin rfl dX2_add_42 (fun H locs u9 e1 hW hS => ?_)
      replace h := z_ly h e1
      clear e1
      refine lv_aload_n hx hb dX2_add_43 rfl (lv_at hl 1 rfl) ?_
      refine z_getr (o := j + 1) C0 hW fl_X2_11 hj.1 rfl hj.2.1 dX2_add_44 ?_
      refine lv_iload hx hb dX2_add_47 (lv_at hl 0 rfl) ?_
      refine lv_iconst (v := (2 : Int32)) hx hb dX2_add_49 (by decide) ?_
      refine lv_iadd hx hb dX2_add_50 ?_
      refine lv_iload_n hx hb dX2_add_51 rfl (lv_at hl 4 rfl) ?_
      replace h := z_if h
      obtain ⟨hin, h⟩ := h
      refine z_iast (n := 240) C0 hW hS hj.2.2.1 hj.2.2.2 hin rfl dX2_add_52 (fun H locs u10 e1 hW hS => ?_)
      replace h := z_ly h e1
      clear e1
      refine lv_aload_n hx hb dX2_add_53 rfl (lv_at hl 1 rfl) ?_
      refine z_getr (o := j + 1) C0 hW fl_X2_11 hj.1 rfl hj.2.1 dX2_add_54 ?_
      refine lv_iload hx hb dX2_add_57 (lv_at hl 0 rfl) ?_
      refine lv_iconst (v := (3 : Int32)) hx hb dX2_add_59 (by decide) ?_
      refine lv_iadd hx hb dX2_add_60 ?_
      refine lv_iload hx hb dX2_add_61 (lv_at hl 5 rfl) ?_
      replace h := z_if h
      obtain ⟨hin, h⟩ := h
      refine z_iast (n := 240) C0 hW hS hj.2.2.1 hj.2.2.2 hin rfl dX2_add_63 (fun H locs u11 e1 hW hS => ?_)
      replace h := z_ly h e1
      clear e1
      refine lv_aload_n hx hb dX2_add_64 rfl (lv_at hl 1 rfl) ?_
      refine lv_aload_n hx hb dX2_add_65 rfl (lv_at hl 1 rfl) ?_
      refine z_geti C0 hW fl_X2_15 hj.1 rfl dX2_add_66 ?_
      refine lv_iconst (v := (1 : Int32)) hx hb dX2_add_69 (by decide) ?_
      refine lv_iadd hx hb dX2_add_70 ?_
      refine lv_bipush (v := (60 : Int32)) hx hb dX2_add_71 (by decide) ?_
      refine lv_irem hx hb dX2_add_73 (by decide) ?_
      refine z_puti C0 hW hS fl_X2_15 hj.1 rfl rfl rfl dX2_add_74 (fun H locs u12 e1 hW hS => ?_)
      replace h := z_ly h e1
      clear e1
      refine lv_aload_n hx hb dX2_add_77 rfl (lv_at hl 1 rfl) ?_
      refine lv_bipush (v := (60 : Int32)) hx hb dX2_add_78 (by decide) ?_
      refine lv_aload_n hx hb dX2_add_80 rfl (lv_at hl 1 rfl) ?_
      refine z_geti C0 hW fl_X2_19 hj.1 rfl dX2_add_81 ?_
      refine lv_iconst (v := (1 : Int32)) hx hb dX2_add_84 (by decide) ?_
      refine lv_iadd hx hb dX2_add_85 ?_
      refine va_mmin hx hb (hml.trans hl.1.symm) C0.2.2.2.1 (C0.2.2.1 _ w_mm_X2_28) (C0.2.2.1 _ w_mst_min) (C0.2.2.1 _ w_min_Math) (C0.2.2.1 _ w_mco_min) (Nat.le_of_ble_eq_true rfl) (Nat.le_of_ble_eq_true rfl) (Nat.zero_le _) (Nat.zero_le _) dX2_add_86 ?_
      refine lv_topi (fun z13 e1 => ?_)
      replace h := z_ly h e1
      clear e1
      refine z_puti C0 hW hS fl_X2_19 hj.1 rfl rfl rfl dX2_add_89 (fun H locs u14 e1 hW hS => ?_)
      replace h := z_ly h e1
      clear e1
      cases h
      exact z_vret C0 hr hlk hW hS dX2_add_92
def f_X2_told (j : Nat) (a1 : Int32) (a2 : Int32) (u : zU) : Option (Int32) :=
  if a1 < 0 then (some (-2 : Int32)) else (if (u j 2) ≤ a1 then (some (-2 : Int32)) else (if a2 < 0 then (some (-2 : Int32)) else (if a2 < (4 : Int32) then ((f_J9_floorMod_7cf53 (((u j 1) - (1 : Int32)) - a1) (60 : Int32) u).bind (fun r1 => if z_in ((r1 * (4 : Int32)) + a2) 240 = true then (z_let (u (j + 1) ((r1 * (4 : Int32)) + a2).toNatClampNeg) (fun z2 => some z2)) else none)) else (some (-2 : Int32)))))
theorem f_X2_told_e (j : Nat) (a1 : Int32) (a2 : Int32) (u : zU) : f_X2_told j a1 a2 u = if a1 < 0 then (some (-2 : Int32)) else (if (u j 2) ≤ a1 then (some (-2 : Int32)) else (if a2 < 0 then (some (-2 : Int32)) else (if a2 < (4 : Int32) then ((f_J9_floorMod_7cf53 (((u j 1) - (1 : Int32)) - a1) (60 : Int32) u).bind (fun r1 => if z_in ((r1 * (4 : Int32)) + a2) 240 = true then (z_let (u (j + 1) ((r1 * (4 : Int32)) + a2).toNatClampNeg) (fun z2 => some z2)) else none)) else (some (-2 : Int32))))) := rfl
set_option maxRecDepth 100000 in
set_option maxHeartbeats 4000000 in
theorem c_X2_told (l : Launch) (D : zD) (A : Nat → Prop) (b : Nat) (g : zG) (j : Nat) (hj : zJn g j) (a1 : Int32) (a2 : Int32) (u : zU) {v : Int32} (h : f_X2_told j a1 a2 u = some v) : z_M l D A b g yX2_told cX2_told 3 (some .int) 1 22 [.ref (b + j), .int a1, .int a2] u (some (.int v)) u := by
  refine z_enter (by decide) (Nat.le_of_ble_eq_true rfl) ?_
  intro p e s m below meth c ls C0 hr hml hlk hW hS hl
  have hl : lv_has ls 3 [(0, .ref (b + j)), (1, .int a1), (2, .int a2)] := hl
  have hx := C0.1
  have hb := C0.2.1
  rw [f_X2_told_e] at h
  refine lv_iload_n hx hb dX2_told_0 rfl (lv_at hl 1 rfl) ?_
  refine lv_if_lt (tgt := 21) hx hb dX2_told_1 (by decide) (fun hc => ?_) (fun hc => ?_)
  · replace h := z_t h hc
    clear hc
    refine lv_bipush (v := (-2 : Int32)) hx hb dX2_told_21 (by decide) ?_
    cases h
    exact z_iret C0 hr hlk hW hS dX2_told_23
  · replace h := z_f h hc
    clear hc
    refine lv_iload_n hx hb dX2_told_4 rfl (lv_at hl 1 rfl) ?_
    refine lv_aload_n hx hb dX2_told_5 rfl (lv_at hl 0 rfl) ?_
    refine z_geti C0 hW fl_X2_19 hj.1 rfl dX2_told_6 ?_
    refine lv_icmp_ge (tgt := 21) hx hb dX2_told_9 (by decide) (fun hc => ?_) (fun hc => ?_)
    · replace h := z_t h hc
      clear hc
      refine lv_bipush (v := (-2 : Int32)) hx hb dX2_told_21 (by decide) ?_
      cases h
      exact z_iret C0 hr hlk hW hS dX2_told_23
    · replace h := z_f h hc
      clear hc
      refine lv_iload_n hx hb dX2_told_12 rfl (lv_at hl 2 rfl) ?_
      refine lv_if_lt (tgt := 21) hx hb dX2_told_13 (by decide) (fun hc => ?_) (fun hc => ?_)
      · replace h := z_t h hc
        clear hc
        refine lv_bipush (v := (-2 : Int32)) hx hb dX2_told_21 (by decide) ?_
        cases h
        exact z_iret C0 hr hlk hW hS dX2_told_23
      · replace h := z_f h hc
        clear hc
        refine lv_iload_n hx hb dX2_told_16 rfl (lv_at hl 2 rfl) ?_
        refine lv_iconst (v := (4 : Int32)) hx hb dX2_told_17 (by decide) ?_
        refine lv_icmp_lt (tgt := 24) hx hb dX2_told_18 (by decide) (fun hc => ?_) (fun hc => ?_)
        · replace h := z_t h hc
          clear hc
          refine lv_aload_n hx hb dX2_told_24 rfl (lv_at hl 0 rfl) ?_
          refine z_getr (o := j + 1) C0 hW fl_X2_11 hj.1 rfl hj.2.1 dX2_told_25 ?_
          refine lv_aload_n hx hb dX2_told_28 rfl (lv_at hl 0 rfl) ?_
          refine z_geti C0 hW fl_X2_15 hj.1 rfl dX2_told_29 ?_
          refine lv_iconst (v := (1 : Int32)) hx hb dX2_told_32 (by decide) ?_
          refine lv_isub hx hb dX2_told_33 ?_
          refine lv_iload_n hx hb dX2_told_34 rfl (lv_at hl 1 rfl) ?_
          refine lv_isub hx hb dX2_told_35 ?_
          refine lv_bipush (v := (60 : Int32)) hx hb dX2_told_36 (by decide) ?_
          replace h := z_bd h
          obtain ⟨r1, hq, h⟩ := h
          refine z_csi (As := [.int (((u j 1) - (1 : Int32)) - a1), .int (60 : Int32)]) C0 hml hl.1 hW hS (c_J9_floorMod_7cf53 l D A b g (((u j 1) - (1 : Int32)) - a1) (60 : Int32) u hq) ms_X2_34 ⟨Nat.le_of_ble_eq_true rfl, Nat.le_of_ble_eq_true rfl⟩ rfl rfl (Nat.le_of_ble_eq_true rfl) dX2_told_38 (fun H locs hW hS => ?_)
          clear hq
          refine lv_iconst (v := (4 : Int32)) hx hb dX2_told_41 (by decide) ?_
          refine lv_imul hx hb dX2_told_42 ?_
          refine lv_iload_n hx hb dX2_told_43 rfl (lv_at hl 2 rfl) ?_
          refine lv_iadd hx hb dX2_told_44 ?_
          replace h := z_if h
          obtain ⟨hin, h⟩ := h
          refine z_iald (n := 240) C0 hW hj.2.2.1 hj.2.2.2 hin rfl dX2_told_45 ?_
          clear hin
          refine lv_topi (fun z2 e1 => ?_)
          replace h := z_ly h e1
          clear e1
          cases h
          exact z_iret C0 hr hlk hW hS dX2_told_46
        · replace h := z_f h hc
          clear hc
          refine lv_bipush (v := (-2 : Int32)) hx hb dX2_told_21 (by decide) ?_
          cases h
          exact z_iret C0 hr hlk hW hS dX2_told_23
def f_X5_clear  (u : zU) : zU :=
  z_let (z_up u 29 8 (0 : Int32)) (fun u1 => z_let (z_up u1 29 9 (0 : Int32)) (fun u2 => u2))
theorem f_X5_clear_e  (u : zU) : f_X5_clear u = z_let (z_up u 29 8 (0 : Int32)) (fun u1 => z_let (z_up u1 29 9 (0 : Int32)) (fun u2 => u2)) := rfl
set_option maxRecDepth 100000 in
set_option maxHeartbeats 4000000 in
theorem c_X5_clear (l : Launch) (D : zD) (A : Nat → Prop) (b : Nat) (g : zG) (hs : zSt g)  (u : zU) {u' : zU} (h : f_X5_clear u = u') : z_M l D A b g yX5_clear cX5_clear 1 none 0 0 [.ref (b + 29)] u none u' := by
  refine z_enter (by decide) (Nat.le_of_ble_eq_true rfl) ?_
  intro p e s m below meth c ls C0 hr hml hlk hW hS hl
  have hl : lv_has ls 1 [(0, .ref (b + 29))] := hl
  have hx := C0.1
  have hb := C0.2.1
  rw [f_X5_clear_e] at h
  refine lv_aload_n hx hb dX5_clear_0 rfl (lv_at hl 0 rfl) ?_
  refine lv_iconst (v := (0 : Int32)) hx hb dX5_clear_1 (by decide) ?_
  refine z_puti C0 hW hS fl_X5_30 (zk1 (hs 29 (by decide))) rfl rfl rfl dX5_clear_2 (fun H locs u1 e1 hW hS => ?_)
  replace h := z_ly h e1
  clear e1
  refine lv_aload_n hx hb dX5_clear_5 rfl (lv_at hl 0 rfl) ?_
  refine lv_iconst (v := (0 : Int32)) hx hb dX5_clear_6 (by decide) ?_
  refine z_puti C0 hW hS fl_X5_34 (zk1 (hs 29 (by decide))) rfl rfl rfl dX5_clear_7 (fun H locs u2 e1 hW hS => ?_)
  replace h := z_ly h e1
  clear e1
  cases h
  exact z_vret C0 hr hlk hW hS dX5_clear_10
def f_X5_node (a1 : Int32) (a2 : Int32) (a3 : Int32) (u : zU) : Option (Int32 × zU) :=
  if (u 29 9) < (400 : Int32) then (if z_in (u 29 9) 400 = true then (z_let (z_up u 33 (u 29 9).toNatClampNeg a1) (fun u1 => if z_in (u1 29 9) 400 = true then (z_let (z_up u1 34 (u1 29 9).toNatClampNeg a2) (fun u2 => if z_in (u2 29 9) 400 = true then (z_let (z_up u2 35 (u2 29 9).toNatClampNeg a3) (fun u3 => z_let (z_up u3 29 9 ((u3 29 9) + (1 : Int32))) (fun u4 => some ((u4 29 9) - (1 : Int32), u4)))) else none)) else none)) else none) else (some ((-1 : Int32), u))
theorem f_X5_node_e (a1 : Int32) (a2 : Int32) (a3 : Int32) (u : zU) : f_X5_node a1 a2 a3 u = if (u 29 9) < (400 : Int32) then (if z_in (u 29 9) 400 = true then (z_let (z_up u 33 (u 29 9).toNatClampNeg a1) (fun u1 => if z_in (u1 29 9) 400 = true then (z_let (z_up u1 34 (u1 29 9).toNatClampNeg a2) (fun u2 => if z_in (u2 29 9) 400 = true then (z_let (z_up u2 35 (u2 29 9).toNatClampNeg a3) (fun u3 => z_let (z_up u3 29 9 ((u3 29 9) + (1 : Int32))) (fun u4 => some ((u4 29 9) - (1 : Int32), u4)))) else none)) else none)) else none) else (some ((-1 : Int32), u)) := rfl
set_option maxRecDepth 100000 in
set_option maxHeartbeats 4000000 in
theorem c_X5_node (l : Launch) (D : zD) (A : Nat → Prop) (b : Nat) (g : zG) (hs : zSt g) (a1 : Int32) (a2 : Int32) (a3 : Int32) (u : zU) {v : Int32} {u' : zU} (h : f_X5_node a1 a2 a3 u = some (v, u')) : z_M l D A b g yX5_node cX5_node 4 (some .int) 0 0 [.ref (b + 29), .int a1, .int a2, .int a3] u (some (.int v)) u' := by
  refine z_enter (by decide) (Nat.le_of_ble_eq_true rfl) ?_
  intro p e s m below meth c ls C0 hr hml hlk hW hS hl
  have hl : lv_has ls 4 [(0, .ref (b + 29)), (1, .int a1), (2, .int a2), (3, .int a3)] := hl
  have hx := C0.1
  have hb := C0.2.1
  rw [f_X5_node_e] at h
  refine lv_aload_n hx hb dX5_node_0 rfl (lv_at hl 0 rfl) ?_
  refine z_geti C0 hW fl_X5_34 (zk1 (hs 29 (by decide))) rfl dX5_node_1 ?_
  refine lv_sipush (v := (400 : Int32)) hx hb dX5_node_4 (by decide) ?_
  refine lv_icmp_lt (tgt := 12) hx hb dX5_node_7 (by decide) (fun hc => ?_) (fun hc => ?_)
  · replace h := z_t h hc
    clear hc
    refine lv_aload_n hx hb dX5_node_12 rfl (lv_at hl 0 rfl) ?_
    refine z_getr (o := 33) C0 hW fl_X5_21 (zk1 (hs 29 (by decide))) rfl (zk3 (hs 29 (by decide)) 5) dX5_node_13 ?_
    refine lv_aload_n hx hb dX5_node_16 rfl (lv_at hl 0 rfl) ?_
    refine z_geti C0 hW fl_X5_34 (zk1 (hs 29 (by decide))) rfl dX5_node_17 ?_
    refine lv_iload_n hx hb dX5_node_20 rfl (lv_at hl 1 rfl) ?_
    replace h := z_if h
    obtain ⟨hin, h⟩ := h
    refine z_iast (n := 400) C0 hW hS (zk1 (hs 33 (by decide))) (zk2 (hs 33 (by decide))) hin rfl dX5_node_21 (fun H locs u1 e1 hW hS => ?_)
    replace h := z_ly h e1
    clear e1
    refine lv_aload_n hx hb dX5_node_22 rfl (lv_at hl 0 rfl) ?_
    refine z_getr (o := 34) C0 hW fl_X5_24 (zk1 (hs 29 (by decide))) rfl (zk3 (hs 29 (by decide)) 6) dX5_node_23 ?_
    refine lv_aload_n hx hb dX5_node_26 rfl (lv_at hl 0 rfl) ?_
    refine z_geti C0 hW fl_X5_34 (zk1 (hs 29 (by decide))) rfl dX5_node_27 ?_
    refine lv_iload_n hx hb dX5_node_30 rfl (lv_at hl 2 rfl) ?_
    replace h := z_if h
    obtain ⟨hin, h⟩ := h
    refine z_iast (n := 400) C0 hW hS (zk1 (hs 34 (by decide))) (zk2 (hs 34 (by decide))) hin rfl dX5_node_31 (fun H locs u2 e1 hW hS => ?_)
    replace h := z_ly h e1
    clear e1
    refine lv_aload_n hx hb dX5_node_32 rfl (lv_at hl 0 rfl) ?_
    refine z_getr (o := 35) C0 hW fl_X5_27 (zk1 (hs 29 (by decide))) rfl (zk3 (hs 29 (by decide)) 7) dX5_node_33 ?_
    refine lv_aload_n hx hb dX5_node_36 rfl (lv_at hl 0 rfl) ?_
    refine z_geti C0 hW fl_X5_34 (zk1 (hs 29 (by decide))) rfl dX5_node_37 ?_
    refine lv_iload_n hx hb dX5_node_40 rfl (lv_at hl 3 rfl) ?_
    replace h := z_if h
    obtain ⟨hin, h⟩ := h
    refine z_iast (n := 400) C0 hW hS (zk1 (hs 35 (by decide))) (zk2 (hs 35 (by decide))) hin rfl dX5_node_41 (fun H locs u3 e1 hW hS => ?_)
    replace h := z_ly h e1
    clear e1
    refine lv_aload_n hx hb dX5_node_42 rfl (lv_at hl 0 rfl) ?_
    refine lv_dup hx hb dX5_node_43 rfl ?_
    refine z_geti C0 hW fl_X5_34 (zk1 (hs 29 (by decide))) rfl dX5_node_44 ?_
    refine lv_iconst (v := (1 : Int32)) hx hb dX5_node_47 (by decide) ?_
    refine lv_iadd hx hb dX5_node_48 ?_
    refine z_puti C0 hW hS fl_X5_34 (zk1 (hs 29 (by decide))) rfl rfl rfl dX5_node_49 (fun H locs u4 e1 hW hS => ?_)
    replace h := z_ly h e1
    clear e1
    refine lv_aload_n hx hb dX5_node_52 rfl (lv_at hl 0 rfl) ?_
    refine z_geti C0 hW fl_X5_34 (zk1 (hs 29 (by decide))) rfl dX5_node_53 ?_
    refine lv_iconst (v := (1 : Int32)) hx hb dX5_node_56 (by decide) ?_
    refine lv_isub hx hb dX5_node_57 ?_
    cases h
    exact z_iret C0 hr hlk hW hS dX5_node_58
  · replace h := z_f h hc
    clear hc
    refine lv_iconst (v := (-1 : Int32)) hx hb dX5_node_10 (by decide) ?_
    cases h
    exact z_iret C0 hr hlk hW hS dX5_node_11
def f_X1_readOpenCradle (L : Nat → Nat)  (u : zU) : Option (Int32 × zU) :=
  (f_X8_value u).bind (fun r1 => if r1 < 0 then ((f_X8_refuse u).bind (fun u2 => some ((-1 : Int32), u2))) else (if (8 : Int32) ≤ r1 then ((f_X8_refuse u).bind (fun u3 => some ((-1 : Int32), u3))) else ((f_X9_isOpen 17 L r1 u).bind (fun t4 => if t4 = true then (z_let (f_X8_pass u) (fun u5 => some (r1, u5))) else ((f_X8_refuse u).bind (fun u6 => some ((-1 : Int32), u6)))))))
theorem f_X1_readOpenCradle_e (L : Nat → Nat)  (u : zU) : f_X1_readOpenCradle L u = (f_X8_value u).bind (fun r1 => if r1 < 0 then ((f_X8_refuse u).bind (fun u2 => some ((-1 : Int32), u2))) else (if (8 : Int32) ≤ r1 then ((f_X8_refuse u).bind (fun u3 => some ((-1 : Int32), u3))) else ((f_X9_isOpen 17 L r1 u).bind (fun t4 => if t4 = true then (z_let (f_X8_pass u) (fun u5 => some (r1, u5))) else ((f_X8_refuse u).bind (fun u6 => some ((-1 : Int32), u6))))))) := rfl
set_option maxRecDepth 100000 in
set_option maxHeartbeats 4000000 in
theorem c_X1_readOpenCradle (l : Launch) (D : zD) (A : Nat → Prop) (b : Nat) (g : zG) (L : Nat → Nat) (hs : zSt g) (hd : zWh g 17 L)  (u : zU) {v : Int32} {u' : zU} (h : f_X1_readOpenCradle L u = some (v, u')) : z_M l D A b g yX1_readOpenCradle cX1_readOpenCradle 2 (some .int) 2 44 [.ref (b + 28)] u (some (.int v)) u' := by
  refine z_enter (by decide) (Nat.le_of_ble_eq_true rfl) ?_
  intro p e s m below meth c ls C0 hr hml hlk hW hS hl
  have hl : lv_has ls 2 [(0, .ref (b + 28))] := hl
  have hx := C0.1
  have hb := C0.2.1
  rw [f_X1_readOpenCradle_e] at h
  refine lv_aload_n hx hb dX1_readOpenCradle_0 rfl (lv_at hl 0 rfl) ?_
  refine z_getr (o := 3) C0 hW fl_X1_21 (zk1 (hs 28 (by decide))) rfl (zk3 (hs 28 (by decide)) 0) dX1_readOpenCradle_1 ?_
  replace h := z_bd h
  obtain ⟨r1, hq, h⟩ := h
  refine z_cvi (As := []) C0 hml hl.1 hW hS (c_X8_value l D A b g hs u hq) mv_X1_93 (zk1 (hs 3 (by decide))) ⟨Nat.le_of_ble_eq_true rfl, Nat.le_of_ble_eq_true rfl⟩ rfl rfl (Nat.le_of_ble_eq_true rfl) dX1_readOpenCradle_4 (fun H locs hW hS => ?_)
  clear hq
  refine lv_istore_n (lv' := [(1, .int r1), (0, .ref (b + 28))]) hx hb dX1_readOpenCradle_7 rfl hl (by decide) rfl (fun ls hl => ?_)
  refine lv_iload_n hx hb dX1_readOpenCradle_8 rfl (lv_at hl 0 rfl) ?_
  refine lv_if_lt (tgt := 29) hx hb dX1_readOpenCradle_9 (by decide) (fun hc => ?_) (fun hc => ?_)
  · replace h := z_t h hc
    clear hc
    refine lv_aload_n hx hb dX1_readOpenCradle_29 rfl (lv_at hl 1 rfl) ?_
    refine z_getr (o := 3) C0 hW fl_X1_21 (zk1 (hs 28 (by decide))) rfl (zk3 (hs 28 (by decide)) 0) dX1_readOpenCradle_30 ?_
    replace h := z_bd h
    obtain ⟨u2, hq, h⟩ := h
    refine z_cvv (As := []) C0 hml hl.1 hW hS (c_X8_refuse l D A b g hs u hq) mv_X1_67 (zk1 (hs 3 (by decide))) ⟨Nat.le_of_ble_eq_true rfl, Nat.le_of_ble_eq_true rfl⟩ rfl rfl (Nat.le_of_ble_eq_true rfl) dX1_readOpenCradle_33 (fun H locs hW hS => ?_)
    clear hq
    refine lv_iconst (v := (-1 : Int32)) hx hb dX1_readOpenCradle_36 (by decide) ?_
    cases h
    exact z_iret C0 hr hlk hW hS dX1_readOpenCradle_37
  · replace h := z_f h hc
    clear hc
    refine lv_iload_n hx hb dX1_readOpenCradle_12 rfl (lv_at hl 0 rfl) ?_
    refine lv_bipush (v := (8 : Int32)) hx hb dX1_readOpenCradle_13 (by decide) ?_
    refine lv_icmp_ge (tgt := 29) hx hb dX1_readOpenCradle_15 (by decide) (fun hc => ?_) (fun hc => ?_)
    · replace h := z_t h hc
      clear hc
      refine lv_aload_n hx hb dX1_readOpenCradle_29 rfl (lv_at hl 1 rfl) ?_
      refine z_getr (o := 3) C0 hW fl_X1_21 (zk1 (hs 28 (by decide))) rfl (zk3 (hs 28 (by decide)) 0) dX1_readOpenCradle_30 ?_
      replace h := z_bd h
      obtain ⟨u3, hq, h⟩ := h
      refine z_cvv (As := []) C0 hml hl.1 hW hS (c_X8_refuse l D A b g hs u hq) mv_X1_67 (zk1 (hs 3 (by decide))) ⟨Nat.le_of_ble_eq_true rfl, Nat.le_of_ble_eq_true rfl⟩ rfl rfl (Nat.le_of_ble_eq_true rfl) dX1_readOpenCradle_33 (fun H locs hW hS => ?_)
      clear hq
      refine lv_iconst (v := (-1 : Int32)) hx hb dX1_readOpenCradle_36 (by decide) ?_
      cases h
      exact z_iret C0 hr hlk hW hS dX1_readOpenCradle_37
    · replace h := z_f h hc
      clear hc
      refine lv_aload_n hx hb dX1_readOpenCradle_18 rfl (lv_at hl 1 rfl) ?_
      refine z_getr (o := 17) C0 hW fl_X1_11 (zk1 (hs 28 (by decide))) rfl (zk3 (hs 28 (by decide)) 2) dX1_readOpenCradle_19 ?_
      refine lv_iload_n hx hb dX1_readOpenCradle_22 rfl (lv_at hl 0 rfl) ?_
      replace h := z_bd h
      obtain ⟨t4, hq, h⟩ := h
      refine z_cvi (As := [.int r1]) C0 hml hl.1 hW hS (c_X9_isOpen l D A b g 17 L hd r1 u hq) mv_X1_96 hd.1 ⟨Nat.le_of_ble_eq_true rfl, Nat.le_of_ble_eq_true rfl⟩ rfl rfl (Nat.le_of_ble_eq_true rfl) dX1_readOpenCradle_23 (fun H locs hW hS => ?_)
      clear hq
      refine z_ifneZ C0 (tgt := 38) dX1_readOpenCradle_26 (by decide) (fun hc => ?_) (fun hc => ?_)
      · replace h := z_t h hc
        clear hc
        refine lv_aload_n hx hb dX1_readOpenCradle_38 rfl (lv_at hl 1 rfl) ?_
        refine z_getr (o := 3) C0 hW fl_X1_21 (zk1 (hs 28 (by decide))) rfl (zk3 (hs 28 (by decide)) 0) dX1_readOpenCradle_39 ?_
        obtain ⟨u5, hq⟩ : ∃ y, f_X8_pass u = y := ⟨_, rfl⟩
        replace h := z_lz h hq
        refine z_cvv (As := []) C0 hml hl.1 hW hS (c_X8_pass l D A b g hs u hq) mv_X1_100 (zk1 (hs 3 (by decide))) ⟨Nat.le_of_ble_eq_true rfl, Nat.le_of_ble_eq_true rfl⟩ rfl rfl (Nat.le_of_ble_eq_true rfl) dX1_readOpenCradle_42 (fun H locs hW hS => ?_)
        clear hq
        refine lv_iload_n hx hb dX1_readOpenCradle_45 rfl (lv_at hl 0 rfl) ?_
        cases h
        exact z_iret C0 hr hlk hW hS dX1_readOpenCradle_46
      · replace h := z_ff h hc
        clear hc
        refine lv_aload_n hx hb dX1_readOpenCradle_29 rfl (lv_at hl 1 rfl) ?_
        refine z_getr (o := 3) C0 hW fl_X1_21 (zk1 (hs 28 (by decide))) rfl (zk3 (hs 28 (by decide)) 0) dX1_readOpenCradle_30 ?_
        replace h := z_bd h
        obtain ⟨u6, hq, h⟩ := h
        refine z_cvv (As := []) C0 hml hl.1 hW hS (c_X8_refuse l D A b g hs u hq) mv_X1_67 (zk1 (hs 3 (by decide))) ⟨Nat.le_of_ble_eq_true rfl, Nat.le_of_ble_eq_true rfl⟩ rfl rfl (Nat.le_of_ble_eq_true rfl) dX1_readOpenCradle_33 (fun H locs hW hS => ?_)
        clear hq
        refine lv_iconst (v := (-1 : Int32)) hx hb dX1_readOpenCradle_36 (by decide) ?_
        cases h
        exact z_iret C0 hr hlk hW hS dX1_readOpenCradle_37
def f_X8_split_49 (K : Int32 → Int32 → zU → Option (zU)) : Nat → Int32 → Int32 → Int32 → Int32 → zU → Option (zU)
  | 0, _, _, _, _, _ => none
  | n + 1, x1, x2, x3, x4, u =>
    if x1 ≤ x2 then (if z_in x3 400 = true then (z_let (u 2 (x3).toNatClampNeg) (fun z9 => if z9 = (32 : Int32) then (K x1 x2 u) else (if z_in (u 3 3) 401 = true then (z_let (z_up u 4 (u 3 3).toNatClampNeg x3) (fun u10 => if z_in (u10 3 3) 401 = true then (z_let (z_up u10 5 (u10 3 3).toNatClampNeg x2) (fun u11 => z_let (z_up u11 3 3 ((u11 3 3) + (1 : Int32))) (fun u12 => K x1 x2 u12))) else none)) else none))) else none) else (if x4 < 0 then (if z_in x3 400 = true then (z_let (u 2 (x3).toNatClampNeg) (fun z13 => if z13 = (32 : Int32) then (K x1 x2 u) else (if z_in (u 3 3) 401 = true then (z_let (z_up u 4 (u 3 3).toNatClampNeg x3) (fun u14 => if z_in (u14 3 3) 401 = true then (z_let (z_up u14 5 (u14 3 3).toNatClampNeg x2) (fun u15 => z_let (z_up u15 3 3 ((u15 3 3) + (1 : Int32))) (fun u16 => K x1 x2 u16))) else none)) else none))) else none) else (if z_in x2 400 = true then (z_let (u 2 (x2).toNatClampNeg) (fun z17 => z_let (f_X8_kindOf z17 u) (fun r18 => if r18 = x4 then (f_X8_split_49 K n x1 (x2 + (1 : Int32)) x3 x4 u) else (if z_in x3 400 = true then (z_let (u 2 (x3).toNatClampNeg) (fun z19 => if z19 = (32 : Int32) then (K x1 x2 u) else (if z_in (u 3 3) 401 = true then (z_let (z_up u 4 (u 3 3).toNatClampNeg x3) (fun u20 => if z_in (u20 3 3) 401 = true then (z_let (z_up u20 5 (u20 3 3).toNatClampNeg x2) (fun u21 => z_let (z_up u21 3 3 ((u21 3 3) + (1 : Int32))) (fun u22 => K x1 x2 u22))) else none)) else none))) else none)))) else none))
theorem f_X8_split_49_s (K : Int32 → Int32 → zU → Option (zU)) (n : Nat) (x1 : Int32) (x2 : Int32) (x3 : Int32) (x4 : Int32) (u : zU) : f_X8_split_49 K (n + 1) x1 x2 x3 x4 u = if x1 ≤ x2 then (if z_in x3 400 = true then (z_let (u 2 (x3).toNatClampNeg) (fun z9 => if z9 = (32 : Int32) then (K x1 x2 u) else (if z_in (u 3 3) 401 = true then (z_let (z_up u 4 (u 3 3).toNatClampNeg x3) (fun u10 => if z_in (u10 3 3) 401 = true then (z_let (z_up u10 5 (u10 3 3).toNatClampNeg x2) (fun u11 => z_let (z_up u11 3 3 ((u11 3 3) + (1 : Int32))) (fun u12 => K x1 x2 u12))) else none)) else none))) else none) else (if x4 < 0 then (if z_in x3 400 = true then (z_let (u 2 (x3).toNatClampNeg) (fun z13 => if z13 = (32 : Int32) then (K x1 x2 u) else (if z_in (u 3 3) 401 = true then (z_let (z_up u 4 (u 3 3).toNatClampNeg x3) (fun u14 => if z_in (u14 3 3) 401 = true then (z_let (z_up u14 5 (u14 3 3).toNatClampNeg x2) (fun u15 => z_let (z_up u15 3 3 ((u15 3 3) + (1 : Int32))) (fun u16 => K x1 x2 u16))) else none)) else none))) else none) else (if z_in x2 400 = true then (z_let (u 2 (x2).toNatClampNeg) (fun z17 => z_let (f_X8_kindOf z17 u) (fun r18 => if r18 = x4 then (f_X8_split_49 K n x1 (x2 + (1 : Int32)) x3 x4 u) else (if z_in x3 400 = true then (z_let (u 2 (x3).toNatClampNeg) (fun z19 => if z19 = (32 : Int32) then (K x1 x2 u) else (if z_in (u 3 3) 401 = true then (z_let (z_up u 4 (u 3 3).toNatClampNeg x3) (fun u20 => if z_in (u20 3 3) 401 = true then (z_let (z_up u20 5 (u20 3 3).toNatClampNeg x2) (fun u21 => z_let (z_up u21 3 3 ((u21 3 3) + (1 : Int32))) (fun u22 => K x1 x2 u22))) else none)) else none))) else none)))) else none)) := rfl
def f_X8_split_25 : Nat → Int32 → Int32 → zU → Option (zU)
  | 0, _, _, _ => none
  | n + 1, x1, x2, u =>
    if x1 ≤ x2 then (if z_in (u 3 3) 401 = true then (z_let (z_up u 4 (u 3 3).toNatClampNeg x1) (fun u5 => if z_in (u5 3 3) 401 = true then (z_let (z_up u5 5 (u5 3 3).toNatClampNeg x1) (fun u6 => some u6)) else none)) else none) else (if z_in x2 400 = true then (z_let (u 2 (x2).toNatClampNeg) (fun z7 => z_let (f_X8_kindOf z7 u) (fun r8 => f_X8_split_49 (fun k1 k2 u => f_X8_split_25 n k1 k2 u) 5000 x1 (x2 + (1 : Int32)) x2 r8 u))) else none)
theorem f_X8_split_25_s (n : Nat) (x1 : Int32) (x2 : Int32) (u : zU) : f_X8_split_25 (n + 1) x1 x2 u = if x1 ≤ x2 then (if z_in (u 3 3) 401 = true then (z_let (z_up u 4 (u 3 3).toNatClampNeg x1) (fun u5 => if z_in (u5 3 3) 401 = true then (z_let (z_up u5 5 (u5 3 3).toNatClampNeg x1) (fun u6 => some u6)) else none)) else none) else (if z_in x2 400 = true then (z_let (u 2 (x2).toNatClampNeg) (fun z7 => z_let (f_X8_kindOf z7 u) (fun r8 => f_X8_split_49 (fun k1 k2 u => f_X8_split_25 n k1 k2 u) 5000 x1 (x2 + (1 : Int32)) x2 r8 u))) else none) := rfl
def f_X8_split  (u : zU) : Option (zU) :=
  z_let (z_up u 3 3 (0 : Int32)) (fun u1 => z_let (z_up u1 3 4 (0 : Int32)) (fun u2 => z_let (z_up u2 3 5 (-1 : Int32)) (fun u3 => z_let (u3 1 1) (fun z4 => f_X8_split_25 5000 z4 (0 : Int32) u3))))
set_option maxRecDepth 100000 in
set_option maxHeartbeats 4000000 in
theorem l_X8_split_49 {l : Launch} {D : zD} {A : Nat → Prop} {b : Nat} {p : Program} {e : Env} {s : State} {m : MethodId} {args : Array Value} {below : List Frame} {meth : Method} {c : Code} {g : zG} {u' : zU} {K : Int32 → Int32 → zU → Option (zU)} (C0 : z_C p c cX8_split s m args yX8_split.cls D A) (hr : meth.sig.returnType = none) (hml : c.maxLocals = 5) (hlk : meth.locks = false) (hs : zSt g) (hK : ∀ (x1 : Int32) (x2 : Int32) (u : zU) (H : Heap) (locs : List Loc) (ls : Array Slot), K x1 x2 u = some u' → z_W D A b g u H → va_S A s.heap H locs → lv_has ls 5 [(0, .ref (b + 3)), (1, .int x1), (2, .int x2)] → W p l e { frames := 1, cells := 0, slots := 0, locals := 20 } s m args below meth c H locs 0 0 (z_End D A b g below args s none u') (F0 m 25 ls [])) : ∀ (n : Nat) (x1 : Int32) (x2 : Int32) (x3 : Int32) (x4 : Int32) (u : zU) (H : Heap) (locs : List Loc) (ls : Array Slot), f_X8_split_49 K n x1 x2 x3 x4 u = some u' → z_W D A b g u H → va_S A s.heap H locs → lv_has ls 5 [(0, .ref (b + 3)), (1, .int x1), (2, .int x2), (3, .int x3), (4, .int x4)] → W p l e { frames := 1, cells := 0, slots := 0, locals := 20 } s m args below meth c H locs 0 0 (z_End D A b g below args s none u') (F0 m 49 ls []) := by
  have hx := C0.1
  have hb := C0.2.1
  intro n
  induction n with
  | zero => intro x1 x2 x3 x4 u H locs ls h hW hS hl; cases h
  | succ n ih =>
    intro x1 x2 x3 x4 u H locs ls h hW hS hl
    rw [f_X8_split_49_s] at h
    refine lv_iload_n hx hb dX8_split_49 rfl (lv_at hl 2 rfl) ?_
    refine lv_iload_n hx hb dX8_split_50 rfl (lv_at hl 1 rfl) ?_
    refine lv_icmp_ge (tgt := 82) hx hb dX8_split_51 (by decide) (fun hc => ?_) (fun hc => ?_)
    · replace h := z_t h hc
      clear hc
      refine lv_aload_n hx hb dX8_split_82 rfl (lv_at hl 0 rfl) ?_
      refine z_getr (o := 1) C0 hW fl_X8_28 (zk1 (hs 3 (by decide))) rfl (zk3 (hs 3 (by decide)) 0) dX8_split_83 ?_
      refine z_getr (o := 2) C0 hW fl_X8_37 (zk1 (hs 1 (by decide))) rfl (zk3 (hs 1 (by decide)) 0) dX8_split_86 ?_
      refine lv_iload_n hx hb dX8_split_89 rfl (lv_at hl 3 rfl) ?_
      replace h := z_if h
      obtain ⟨hin, h⟩ := h
      refine z_iald (n := 400) C0 hW (zk1 (hs 2 (by decide))) (zk2 (hs 2 (by decide))) hin rfl dX8_split_90 ?_
      clear hin
      refine lv_topi (fun z9 e1 => ?_)
      replace h := z_ly h e1
      clear e1
      refine lv_bipush (v := (32 : Int32)) hx hb dX8_split_91 (by decide) ?_
      refine lv_icmp_eq (tgt := 126) hx hb dX8_split_93 (by decide) (fun hc => ?_) (fun hc => ?_)
      · replace h := z_t h hc
        clear hc
        refine lv_goto (tgt := 25) hx hb dX8_split_126 (by decide) ?_
        exact hK _ _ _ _ _ _ h hW hS (lv_sub hl [0, 1, 2] rfl)
      · replace h := z_f h hc
        clear hc
        refine lv_aload_n hx hb dX8_split_96 rfl (lv_at hl 0 rfl) ?_
        refine z_getr (o := 4) C0 hW fl_X8_9 (zk1 (hs 3 (by decide))) rfl (zk3 (hs 3 (by decide)) 1) dX8_split_97 ?_
        refine lv_aload_n hx hb dX8_split_100 rfl (lv_at hl 0 rfl) ?_
        refine z_geti C0 hW fl_X8_18 (zk1 (hs 3 (by decide))) rfl dX8_split_101 ?_
        refine lv_iload_n hx hb dX8_split_104 rfl (lv_at hl 3 rfl) ?_
        replace h := z_if h
        obtain ⟨hin, h⟩ := h
        refine z_iast (n := 401) C0 hW hS (zk1 (hs 4 (by decide))) (zk2 (hs 4 (by decide))) hin rfl dX8_split_105 (fun H locs u10 e1 hW hS => ?_)
        replace h := z_ly h e1
        clear e1
        refine lv_aload_n hx hb dX8_split_106 rfl (lv_at hl 0 rfl) ?_
        refine z_getr (o := 5) C0 hW fl_X8_15 (zk1 (hs 3 (by decide))) rfl (zk3 (hs 3 (by decide)) 2) dX8_split_107 ?_
        refine lv_aload_n hx hb dX8_split_110 rfl (lv_at hl 0 rfl) ?_
        refine z_geti C0 hW fl_X8_18 (zk1 (hs 3 (by decide))) rfl dX8_split_111 ?_
        refine lv_iload_n hx hb dX8_split_114 rfl (lv_at hl 2 rfl) ?_
        replace h := z_if h
        obtain ⟨hin, h⟩ := h
        refine z_iast (n := 401) C0 hW hS (zk1 (hs 5 (by decide))) (zk2 (hs 5 (by decide))) hin rfl dX8_split_115 (fun H locs u11 e1 hW hS => ?_)
        replace h := z_ly h e1
        clear e1
        refine lv_aload_n hx hb dX8_split_116 rfl (lv_at hl 0 rfl) ?_
        refine lv_dup hx hb dX8_split_117 rfl ?_
        refine z_geti C0 hW fl_X8_18 (zk1 (hs 3 (by decide))) rfl dX8_split_118 ?_
        refine lv_iconst (v := (1 : Int32)) hx hb dX8_split_121 (by decide) ?_
        refine lv_iadd hx hb dX8_split_122 ?_
        refine z_puti C0 hW hS fl_X8_18 (zk1 (hs 3 (by decide))) rfl rfl rfl dX8_split_123 (fun H locs u12 e1 hW hS => ?_)
        replace h := z_ly h e1
        clear e1
        refine lv_goto (tgt := 25) hx hb dX8_split_126 (by decide) ?_
        exact hK _ _ _ _ _ _ h hW hS (lv_sub hl [0, 1, 2] rfl)
    · replace h := z_f h hc
      clear hc
      refine lv_iload hx hb dX8_split_54 (lv_at hl 4 rfl) ?_
      refine lv_if_lt (tgt := 82) hx hb dX8_split_56 (by decide) (fun hc => ?_) (fun hc => ?_)
      · replace h := z_t h hc
        clear hc
        refine lv_aload_n hx hb dX8_split_82 rfl (lv_at hl 0 rfl) ?_
        refine z_getr (o := 1) C0 hW fl_X8_28 (zk1 (hs 3 (by decide))) rfl (zk3 (hs 3 (by decide)) 0) dX8_split_83 ?_
        refine z_getr (o := 2) C0 hW fl_X8_37 (zk1 (hs 1 (by decide))) rfl (zk3 (hs 1 (by decide)) 0) dX8_split_86 ?_
        refine lv_iload_n hx hb dX8_split_89 rfl (lv_at hl 3 rfl) ?_
        replace h := z_if h
        obtain ⟨hin, h⟩ := h
        refine z_iald (n := 400) C0 hW (zk1 (hs 2 (by decide))) (zk2 (hs 2 (by decide))) hin rfl dX8_split_90 ?_
        clear hin
        refine lv_topi (fun z13 e1 => ?_)
        replace h := z_ly h e1
        clear e1
        refine lv_bipush (v := (32 : Int32)) hx hb dX8_split_91 (by decide) ?_
        refine lv_icmp_eq (tgt := 126) hx hb dX8_split_93 (by decide) (fun hc => ?_) (fun hc => ?_)
        · replace h := z_t h hc
          clear hc
          refine lv_goto (tgt := 25) hx hb dX8_split_126 (by decide) ?_
          exact hK _ _ _ _ _ _ h hW hS (lv_sub hl [0, 1, 2] rfl)
        · replace h := z_f h hc
          clear hc
          refine lv_aload_n hx hb dX8_split_96 rfl (lv_at hl 0 rfl) ?_
          refine z_getr (o := 4) C0 hW fl_X8_9 (zk1 (hs 3 (by decide))) rfl (zk3 (hs 3 (by decide)) 1) dX8_split_97 ?_
          refine lv_aload_n hx hb dX8_split_100 rfl (lv_at hl 0 rfl) ?_
          refine z_geti C0 hW fl_X8_18 (zk1 (hs 3 (by decide))) rfl dX8_split_101 ?_
          refine lv_iload_n hx hb dX8_split_104 rfl (lv_at hl 3 rfl) ?_
          replace h := z_if h
          obtain ⟨hin, h⟩ := h
          refine z_iast (n := 401) C0 hW hS (zk1 (hs 4 (by decide))) (zk2 (hs 4 (by decide))) hin rfl dX8_split_105 (fun H locs u14 e1 hW hS => ?_)
          replace h := z_ly h e1
          clear e1
          refine lv_aload_n hx hb dX8_split_106 rfl (lv_at hl 0 rfl) ?_
          refine z_getr (o := 5) C0 hW fl_X8_15 (zk1 (hs 3 (by decide))) rfl (zk3 (hs 3 (by decide)) 2) dX8_split_107 ?_
          refine lv_aload_n hx hb dX8_split_110 rfl (lv_at hl 0 rfl) ?_
          refine z_geti C0 hW fl_X8_18 (zk1 (hs 3 (by decide))) rfl dX8_split_111 ?_
          refine lv_iload_n hx hb dX8_split_114 rfl (lv_at hl 2 rfl) ?_
          replace h := z_if h
          obtain ⟨hin, h⟩ := h
          refine z_iast (n := 401) C0 hW hS (zk1 (hs 5 (by decide))) (zk2 (hs 5 (by decide))) hin rfl dX8_split_115 (fun H locs u15 e1 hW hS => ?_)
          replace h := z_ly h e1
          clear e1
          refine lv_aload_n hx hb dX8_split_116 rfl (lv_at hl 0 rfl) ?_
          refine lv_dup hx hb dX8_split_117 rfl ?_
          refine z_geti C0 hW fl_X8_18 (zk1 (hs 3 (by decide))) rfl dX8_split_118 ?_
          refine lv_iconst (v := (1 : Int32)) hx hb dX8_split_121 (by decide) ?_
          refine lv_iadd hx hb dX8_split_122 ?_
          refine z_puti C0 hW hS fl_X8_18 (zk1 (hs 3 (by decide))) rfl rfl rfl dX8_split_123 (fun H locs u16 e1 hW hS => ?_)
          replace h := z_ly h e1
          clear e1
          refine lv_goto (tgt := 25) hx hb dX8_split_126 (by decide) ?_
          exact hK _ _ _ _ _ _ h hW hS (lv_sub hl [0, 1, 2] rfl)
      · replace h := z_f h hc
        clear hc
        refine lv_aload_n hx hb dX8_split_59 rfl (lv_at hl 0 rfl) ?_
        refine z_getr (o := 1) C0 hW fl_X8_28 (zk1 (hs 3 (by decide))) rfl (zk3 (hs 3 (by decide)) 0) dX8_split_60 ?_
        refine z_getr (o := 2) C0 hW fl_X8_37 (zk1 (hs 1 (by decide))) rfl (zk3 (hs 1 (by decide)) 0) dX8_split_63 ?_
        refine lv_iload_n hx hb dX8_split_66 rfl (lv_at hl 2 rfl) ?_
        replace h := z_if h
        obtain ⟨hin, h⟩ := h
        refine z_iald (n := 400) C0 hW (zk1 (hs 2 (by decide))) (zk2 (hs 2 (by decide))) hin rfl dX8_split_67 ?_
        clear hin
        refine lv_topi (fun z17 e1 => ?_)
        replace h := z_ly h e1
        clear e1
        obtain ⟨r18, hq⟩ : ∃ y, f_X8_kindOf z17 u = y := ⟨_, rfl⟩
        replace h := z_lz h hq
        refine z_csi (As := [.int z17]) C0 hml hl.1 hW hS (c_X8_kindOf l D A b g z17 u hq) ms_X8_40 ⟨Nat.le_of_ble_eq_true rfl, Nat.le_of_ble_eq_true rfl⟩ rfl rfl (Nat.le_of_ble_eq_true rfl) dX8_split_68 (fun H locs hW hS => ?_)
        clear hq
        refine lv_iload hx hb dX8_split_71 (lv_at hl 4 rfl) ?_
        refine lv_icmp_ne (tgt := 82) hx hb dX8_split_73 (by decide) (fun hc => ?_) (fun hc => ?_)
        · replace h := z_f h hc
          clear hc
          refine lv_aload_n hx hb dX8_split_82 rfl (lv_at hl 0 rfl) ?_
          refine z_getr (o := 1) C0 hW fl_X8_28 (zk1 (hs 3 (by decide))) rfl (zk3 (hs 3 (by decide)) 0) dX8_split_83 ?_
          refine z_getr (o := 2) C0 hW fl_X8_37 (zk1 (hs 1 (by decide))) rfl (zk3 (hs 1 (by decide)) 0) dX8_split_86 ?_
          refine lv_iload_n hx hb dX8_split_89 rfl (lv_at hl 3 rfl) ?_
          replace h := z_if h
          obtain ⟨hin, h⟩ := h
          refine z_iald (n := 400) C0 hW (zk1 (hs 2 (by decide))) (zk2 (hs 2 (by decide))) hin rfl dX8_split_90 ?_
          clear hin
          refine lv_topi (fun z19 e1 => ?_)
          replace h := z_ly h e1
          clear e1
          refine lv_bipush (v := (32 : Int32)) hx hb dX8_split_91 (by decide) ?_
          refine lv_icmp_eq (tgt := 126) hx hb dX8_split_93 (by decide) (fun hc => ?_) (fun hc => ?_)
          · replace h := z_t h hc
            clear hc
            refine lv_goto (tgt := 25) hx hb dX8_split_126 (by decide) ?_
            exact hK _ _ _ _ _ _ h hW hS (lv_sub hl [0, 1, 2] rfl)
          · replace h := z_f h hc
            clear hc
            refine lv_aload_n hx hb dX8_split_96 rfl (lv_at hl 0 rfl) ?_
            refine z_getr (o := 4) C0 hW fl_X8_9 (zk1 (hs 3 (by decide))) rfl (zk3 (hs 3 (by decide)) 1) dX8_split_97 ?_
            refine lv_aload_n hx hb dX8_split_100 rfl (lv_at hl 0 rfl) ?_
            refine z_geti C0 hW fl_X8_18 (zk1 (hs 3 (by decide))) rfl dX8_split_101 ?_
            refine lv_iload_n hx hb dX8_split_104 rfl (lv_at hl 3 rfl) ?_
            replace h := z_if h
            obtain ⟨hin, h⟩ := h
            refine z_iast (n := 401) C0 hW hS (zk1 (hs 4 (by decide))) (zk2 (hs 4 (by decide))) hin rfl dX8_split_105 (fun H locs u20 e1 hW hS => ?_)
            replace h := z_ly h e1
            clear e1
            refine lv_aload_n hx hb dX8_split_106 rfl (lv_at hl 0 rfl) ?_
            refine z_getr (o := 5) C0 hW fl_X8_15 (zk1 (hs 3 (by decide))) rfl (zk3 (hs 3 (by decide)) 2) dX8_split_107 ?_
            refine lv_aload_n hx hb dX8_split_110 rfl (lv_at hl 0 rfl) ?_
            refine z_geti C0 hW fl_X8_18 (zk1 (hs 3 (by decide))) rfl dX8_split_111 ?_
            refine lv_iload_n hx hb dX8_split_114 rfl (lv_at hl 2 rfl) ?_
            replace h := z_if h
            obtain ⟨hin, h⟩ := h
            refine z_iast (n := 401) C0 hW hS (zk1 (hs 5 (by decide))) (zk2 (hs 5 (by decide))) hin rfl dX8_split_115 (fun H locs u21 e1 hW hS => ?_)
            replace h := z_ly h e1
            clear e1
            refine lv_aload_n hx hb dX8_split_116 rfl (lv_at hl 0 rfl) ?_
            refine lv_dup hx hb dX8_split_117 rfl ?_
            refine z_geti C0 hW fl_X8_18 (zk1 (hs 3 (by decide))) rfl dX8_split_118 ?_
            refine lv_iconst (v := (1 : Int32)) hx hb dX8_split_121 (by decide) ?_
            refine lv_iadd hx hb dX8_split_122 ?_
            refine z_puti C0 hW hS fl_X8_18 (zk1 (hs 3 (by decide))) rfl rfl rfl dX8_split_123 (fun H locs u22 e1 hW hS => ?_)
            replace h := z_ly h e1
            clear e1
            refine lv_goto (tgt := 25) hx hb dX8_split_126 (by decide) ?_
            exact hK _ _ _ _ _ _ h hW hS (lv_sub hl [0, 1, 2] rfl)
        · replace h := z_t h hc
          clear hc
          refine lv_iinc (v := x2 + (1 : Int32)) (lv' := [(2, .int (x2 + (1 : Int32))), (0, .ref (b + 3)), (1, .int x1), (3, .int x3), (4, .int x4)]) hx hb dX8_split_76 hl (k := 2) rfl rfl (by decide) rfl (fun ls hl => ?_)
          refine lv_goto (tgt := 49) hx hb dX8_split_79 (by decide) ?_
          exact ih _ _ _ _ _ _ _ _ h hW hS (lv_sub hl [1, 2, 0, 3, 4] rfl)
set_option maxRecDepth 100000 in
set_option maxHeartbeats 4000000 in
theorem l_X8_split_25 {l : Launch} {D : zD} {A : Nat → Prop} {b : Nat} {p : Program} {e : Env} {s : State} {m : MethodId} {args : Array Value} {below : List Frame} {meth : Method} {c : Code} {g : zG} {u' : zU} (C0 : z_C p c cX8_split s m args yX8_split.cls D A) (hr : meth.sig.returnType = none) (hml : c.maxLocals = 5) (hlk : meth.locks = false) (hs : zSt g) : ∀ (n : Nat) (x1 : Int32) (x2 : Int32) (u : zU) (H : Heap) (locs : List Loc) (ls : Array Slot), f_X8_split_25 n x1 x2 u = some u' → z_W D A b g u H → va_S A s.heap H locs → lv_has ls 5 [(0, .ref (b + 3)), (1, .int x1), (2, .int x2)] → W p l e { frames := 1, cells := 0, slots := 0, locals := 20 } s m args below meth c H locs 0 0 (z_End D A b g below args s none u') (F0 m 25 ls []) := by
  have hx := C0.1
  have hb := C0.2.1
  intro n
  induction n with
  | zero => intro x1 x2 u H locs ls h hW hS hl; cases h
  | succ n ih =>
    intro x1 x2 u H locs ls h hW hS hl
    rw [f_X8_split_25_s] at h
    refine lv_iload_n hx hb dX8_split_25 rfl (lv_at hl 2 rfl) ?_
    refine lv_iload_n hx hb dX8_split_26 rfl (lv_at hl 1 rfl) ?_
    refine lv_icmp_ge (tgt := 129) hx hb dX8_split_27 (by decide) (fun hc => ?_) (fun hc => ?_)
    · replace h := z_t h hc
      clear hc
      refine lv_aload_n hx hb dX8_split_129 rfl (lv_at hl 0 rfl) ?_
      refine z_getr (o := 4) C0 hW fl_X8_9 (zk1 (hs 3 (by decide))) rfl (zk3 (hs 3 (by decide)) 1) dX8_split_130 ?_
      refine lv_aload_n hx hb dX8_split_133 rfl (lv_at hl 0 rfl) ?_
      refine z_geti C0 hW fl_X8_18 (zk1 (hs 3 (by decide))) rfl dX8_split_134 ?_
      refine lv_iload_n hx hb dX8_split_137 rfl (lv_at hl 1 rfl) ?_
      replace h := z_if h
      obtain ⟨hin, h⟩ := h
      refine z_iast (n := 401) C0 hW hS (zk1 (hs 4 (by decide))) (zk2 (hs 4 (by decide))) hin rfl dX8_split_138 (fun H locs u5 e1 hW hS => ?_)
      replace h := z_ly h e1
      clear e1
      refine lv_aload_n hx hb dX8_split_139 rfl (lv_at hl 0 rfl) ?_
      refine z_getr (o := 5) C0 hW fl_X8_15 (zk1 (hs 3 (by decide))) rfl (zk3 (hs 3 (by decide)) 2) dX8_split_140 ?_
      refine lv_aload_n hx hb dX8_split_143 rfl (lv_at hl 0 rfl) ?_
      refine z_geti C0 hW fl_X8_18 (zk1 (hs 3 (by decide))) rfl dX8_split_144 ?_
      refine lv_iload_n hx hb dX8_split_147 rfl (lv_at hl 1 rfl) ?_
      replace h := z_if h
      obtain ⟨hin, h⟩ := h
      refine z_iast (n := 401) C0 hW hS (zk1 (hs 5 (by decide))) (zk2 (hs 5 (by decide))) hin rfl dX8_split_148 (fun H locs u6 e1 hW hS => ?_)
      replace h := z_ly h e1
      clear e1
      cases h
      exact z_vret C0 hr hlk hW hS dX8_split_149
    · replace h := z_f h hc
      clear hc
      refine lv_iload_n hx hb dX8_split_30 rfl (lv_at hl 2 rfl) ?_
      refine lv_istore_n (lv' := [(3, .int x2), (0, .ref (b + 3)), (1, .int x1), (2, .int x2)]) hx hb dX8_split_31 rfl hl (by decide) rfl (fun ls hl => ?_)
      refine lv_aload_n hx hb dX8_split_32 rfl (lv_at hl 1 rfl) ?_
      refine z_getr (o := 1) C0 hW fl_X8_28 (zk1 (hs 3 (by decide))) rfl (zk3 (hs 3 (by decide)) 0) dX8_split_33 ?_
      refine z_getr (o := 2) C0 hW fl_X8_37 (zk1 (hs 1 (by decide))) rfl (zk3 (hs 1 (by decide)) 0) dX8_split_36 ?_
      refine lv_iload_n hx hb dX8_split_39 rfl (lv_at hl 0 rfl) ?_
      replace h := z_if h
      obtain ⟨hin, h⟩ := h
      refine z_iald (n := 400) C0 hW (zk1 (hs 2 (by decide))) (zk2 (hs 2 (by decide))) hin rfl dX8_split_40 ?_
      clear hin
      refine lv_topi (fun z7 e1 => ?_)
      replace h := z_ly h e1
      clear e1
      obtain ⟨r8, hq⟩ : ∃ y, f_X8_kindOf z7 u = y := ⟨_, rfl⟩
      replace h := z_lz h hq
      refine z_csi (As := [.int z7]) C0 hml hl.1 hW hS (c_X8_kindOf l D A b g z7 u hq) ms_X8_40 ⟨Nat.le_of_ble_eq_true rfl, Nat.le_of_ble_eq_true rfl⟩ rfl rfl (Nat.le_of_ble_eq_true rfl) dX8_split_41 (fun H locs hW hS => ?_)
      clear hq
      refine lv_istore (lv' := [(4, .int r8), (3, .int x2), (0, .ref (b + 3)), (1, .int x1), (2, .int x2)]) hx hb dX8_split_44 hl (by decide) rfl (fun ls hl => ?_)
      refine lv_iinc (v := x2 + (1 : Int32)) (lv' := [(2, .int (x2 + (1 : Int32))), (4, .int r8), (3, .int x2), (0, .ref (b + 3)), (1, .int x1)]) hx hb dX8_split_46 hl (k := 4) rfl rfl (by decide) rfl (fun ls hl => ?_)
      exact l_X8_split_49 C0 hr hml hlk hs (fun q0 q1 q2 q3 q4 q5 h hW hS hl => ih q0 q1 q2 q3 q4 q5 h hW hS hl) 5000 _ _ _ _ _ _ _ _ h hW hS (lv_sub hl [3, 4, 0, 2, 1] rfl)
theorem f_X8_split_e  (u : zU) : f_X8_split u = z_let (z_up u 3 3 (0 : Int32)) (fun u1 => z_let (z_up u1 3 4 (0 : Int32)) (fun u2 => z_let (z_up u2 3 5 (-1 : Int32)) (fun u3 => z_let (u3 1 1) (fun z4 => f_X8_split_25 5000 z4 (0 : Int32) u3)))) := rfl
set_option maxRecDepth 100000 in
set_option maxHeartbeats 4000000 in
theorem c_X8_split (l : Launch) (D : zD) (A : Nat → Prop) (b : Nat) (g : zG) (hs : zSt g)  (u : zU) {u' : zU} (h : f_X8_split u = some u') : z_M l D A b g yX8_split cX8_split 5 none 1 20 [.ref (b + 3)] u none u' := by
  refine z_enter (by decide) (Nat.le_of_ble_eq_true rfl) ?_
  intro p e s m below meth c ls C0 hr hml hlk hW hS hl
  have hl : lv_has ls 5 [(0, .ref (b + 3))] := hl
  have hx := C0.1
  have hb := C0.2.1
  rw [f_X8_split_e] at h
  refine lv_aload_n hx hb dX8_split_0 rfl (lv_at hl 0 rfl) ?_
  refine lv_iconst (v := (0 : Int32)) hx hb dX8_split_1 (by decide) ?_
  refine z_puti C0 hW hS fl_X8_18 (zk1 (hs 3 (by decide))) rfl rfl rfl dX8_split_2 (fun H locs u1 e1 hW hS => ?_)
  replace h := z_ly h e1
  clear e1
  refine lv_aload_n hx hb dX8_split_5 rfl (lv_at hl 0 rfl) ?_
  refine lv_iconst (v := (0 : Int32)) hx hb dX8_split_6 (by decide) ?_
  refine z_puti C0 hW hS fl_X8_22 (zk1 (hs 3 (by decide))) rfl rfl rfl dX8_split_7 (fun H locs u2 e1 hW hS => ?_)
  replace h := z_ly h e1
  clear e1
  refine lv_aload_n hx hb dX8_split_10 rfl (lv_at hl 0 rfl) ?_
  refine lv_iconst (v := (-1 : Int32)) hx hb dX8_split_11 (by decide) ?_
  refine z_puti C0 hW hS fl_X8_25 (zk1 (hs 3 (by decide))) rfl rfl rfl dX8_split_12 (fun H locs u3 e1 hW hS => ?_)
  replace h := z_ly h e1
  clear e1
  refine lv_aload_n hx hb dX8_split_15 rfl (lv_at hl 0 rfl) ?_
  refine z_getr (o := 1) C0 hW fl_X8_28 (zk1 (hs 3 (by decide))) rfl (zk3 (hs 3 (by decide)) 0) dX8_split_16 ?_
  refine z_geti C0 hW fl_X8_32 (zk1 (hs 1 (by decide))) rfl dX8_split_19 ?_
  refine lv_topi (fun z4 e1 => ?_)
  replace h := z_ly h e1
  clear e1
  refine lv_istore_n (lv' := [(1, .int z4), (0, .ref (b + 3))]) hx hb dX8_split_22 rfl hl (by decide) rfl (fun ls hl => ?_)
  refine lv_iconst (v := (0 : Int32)) hx hb dX8_split_23 (by decide) ?_
  refine lv_istore_n (lv' := [(2, .int (0 : Int32)), (1, .int z4), (0, .ref (b + 3))]) hx hb dX8_split_24 rfl hl (by decide) rfl (fun ls hl => ?_)
  exact l_X8_split_25 C0 hr hml hlk hs 5000 _ _ _ _ _ _ h hW hS (lv_sub hl [2, 1, 0] rfl)
def f_X8_must (a1 : Nat) (u : zU) : Option (zU) :=
  z_b2 (f_X8_takes a1 u) (fun t1 u2 => if t1 = true then (some u2) else ((f_X8_refuse u2).bind (fun u3 => some u3)))
theorem f_X8_must_e (a1 : Nat) (u : zU) : f_X8_must a1 u = z_b2 (f_X8_takes a1 u) (fun t1 u2 => if t1 = true then (some u2) else ((f_X8_refuse u2).bind (fun u3 => some u3))) := rfl
set_option maxRecDepth 100000 in
set_option maxHeartbeats 4000000 in
theorem c_X8_must (l : Launch) (D : zD) (A : Nat → Prop) (b : Nat) (g : zG) (hs : zSt g) (a1 : Nat) (hs_a1 : a1 < sN) (u : zU) {u' : zU} (h : f_X8_must a1 u = some u') : z_M l D A b g yX8_must cX8_must 2 none 5 109 [.ref (b + 3), .ref (sA D a1)] u none u' := by
  refine z_enter (by decide) (Nat.le_of_ble_eq_true rfl) ?_
  intro p e s m below meth c ls C0 hr hml hlk hW hS hl
  have hl : lv_has ls 2 [(0, .ref (b + 3)), (1, .ref (sA D a1))] := hl
  have hx := C0.1
  have hb := C0.2.1
  rw [f_X8_must_e] at h
  refine lv_aload_n hx hb dX8_must_0 rfl (lv_at hl 0 rfl) ?_
  refine lv_aload_n hx hb dX8_must_1 rfl (lv_at hl 1 rfl) ?_
  replace h := z_bd2 h
  obtain ⟨t1, u2, hq, h⟩ := h
  refine z_cvi (As := [.ref (sA D a1)]) C0 hml hl.1 hW hS (c_X8_takes l D A b g hs a1 hs_a1 u hq) mv_X8_53 (zk1 (hs 3 (by decide))) ⟨Nat.le_of_ble_eq_true rfl, Nat.le_of_ble_eq_true rfl⟩ rfl rfl (Nat.le_of_ble_eq_true rfl) dX8_must_2 (fun H locs hW hS => ?_)
  clear hq
  refine z_ifneZ C0 (tgt := 12) dX8_must_5 (by decide) (fun hc => ?_) (fun hc => ?_)
  · replace h := z_t h hc
    clear hc
    cases h
    exact z_vret C0 hr hlk hW hS dX8_must_12
  · replace h := z_ff h hc
    clear hc
    refine lv_aload_n hx hb dX8_must_8 rfl (lv_at hl 0 rfl) ?_
    replace h := z_bd h
    obtain ⟨u3, hq, h⟩ := h
    refine z_cvv (As := []) C0 hml hl.1 hW hS (c_X8_refuse l D A b g hs u2 hq) mv_X8_57 (zk1 (hs 3 (by decide))) ⟨Nat.le_of_ble_eq_true rfl, Nat.le_of_ble_eq_true rfl⟩ rfl rfl (Nat.le_of_ble_eq_true rfl) dX8_must_9 (fun H locs hW hS => ?_)
    clear hq
    cases h
    exact z_vret C0 hr hlk hW hS dX8_must_12
def f_X8_number (a1 : Int32) (a2 : Int32) (u : zU) : Option (Int32 × zU) :=
  (f_X8_value u).bind (fun r1 => if r1 < a1 then ((f_X8_refuse u).bind (fun u2 => some (a1, u2))) else (if r1 ≤ a2 then (z_let (f_X8_pass u) (fun u3 => some (r1, u3))) else ((f_X8_refuse u).bind (fun u4 => some (a1, u4)))))
theorem f_X8_number_e (a1 : Int32) (a2 : Int32) (u : zU) : f_X8_number a1 a2 u = (f_X8_value u).bind (fun r1 => if r1 < a1 then ((f_X8_refuse u).bind (fun u2 => some (a1, u2))) else (if r1 ≤ a2 then (z_let (f_X8_pass u) (fun u3 => some (r1, u3))) else ((f_X8_refuse u).bind (fun u4 => some (a1, u4))))) := rfl
set_option maxRecDepth 100000 in
set_option maxHeartbeats 4000000 in
theorem c_X8_number (l : Launch) (D : zD) (A : Nat → Prop) (b : Nat) (g : zG) (hs : zSt g) (a1 : Int32) (a2 : Int32) (u : zU) {v : Int32} {u' : zU} (h : f_X8_number a1 a2 u = some (v, u')) : z_M l D A b g yX8_number cX8_number 4 (some .int) 1 24 [.ref (b + 3), .int a1, .int a2] u (some (.int v)) u' := by
  refine z_enter (by decide) (Nat.le_of_ble_eq_true rfl) ?_
  intro p e s m below meth c ls C0 hr hml hlk hW hS hl
  have hl : lv_has ls 4 [(0, .ref (b + 3)), (1, .int a1), (2, .int a2)] := hl
  have hx := C0.1
  have hb := C0.2.1
  rw [f_X8_number_e] at h
  refine lv_aload_n hx hb dX8_number_0 rfl (lv_at hl 0 rfl) ?_
  replace h := z_bd h
  obtain ⟨r1, hq, h⟩ := h
  refine z_cvi (As := []) C0 hml hl.1 hW hS (c_X8_value l D A b g hs u hq) mv_X8_60 (zk1 (hs 3 (by decide))) ⟨Nat.le_of_ble_eq_true rfl, Nat.le_of_ble_eq_true rfl⟩ rfl rfl (Nat.le_of_ble_eq_true rfl) dX8_number_1 (fun H locs hW hS => ?_)
  clear hq
  refine lv_istore_n (lv' := [(3, .int r1), (0, .ref (b + 3)), (1, .int a1), (2, .int a2)]) hx hb dX8_number_4 rfl hl (by decide) rfl (fun ls hl => ?_)
  refine lv_iload_n hx hb dX8_number_5 rfl (lv_at hl 0 rfl) ?_
  refine lv_iload_n hx hb dX8_number_6 rfl (lv_at hl 2 rfl) ?_
  refine lv_icmp_lt (tgt := 15) hx hb dX8_number_7 (by decide) (fun hc => ?_) (fun hc => ?_)
  · replace h := z_t h hc
    clear hc
    refine lv_aload_n hx hb dX8_number_15 rfl (lv_at hl 1 rfl) ?_
    replace h := z_bd h
    obtain ⟨u2, hq, h⟩ := h
    refine z_cvv (As := []) C0 hml hl.1 hW hS (c_X8_refuse l D A b g hs u hq) mv_X8_57 (zk1 (hs 3 (by decide))) ⟨Nat.le_of_ble_eq_true rfl, Nat.le_of_ble_eq_true rfl⟩ rfl rfl (Nat.le_of_ble_eq_true rfl) dX8_number_16 (fun H locs hW hS => ?_)
    clear hq
    refine lv_iload_n hx hb dX8_number_19 rfl (lv_at hl 2 rfl) ?_
    cases h
    exact z_iret C0 hr hlk hW hS dX8_number_20
  · replace h := z_f h hc
    clear hc
    refine lv_iload_n hx hb dX8_number_10 rfl (lv_at hl 0 rfl) ?_
    refine lv_iload_n hx hb dX8_number_11 rfl (lv_at hl 3 rfl) ?_
    refine lv_icmp_le (tgt := 21) hx hb dX8_number_12 (by decide) (fun hc => ?_) (fun hc => ?_)
    · replace h := z_t h hc
      clear hc
      refine lv_aload_n hx hb dX8_number_21 rfl (lv_at hl 1 rfl) ?_
      obtain ⟨u3, hq⟩ : ∃ y, f_X8_pass u = y := ⟨_, rfl⟩
      replace h := z_lz h hq
      refine z_cvv (As := []) C0 hml hl.1 hW hS (c_X8_pass l D A b g hs u hq) mv_X8_63 (zk1 (hs 3 (by decide))) ⟨Nat.le_of_ble_eq_true rfl, Nat.le_of_ble_eq_true rfl⟩ rfl rfl (Nat.le_of_ble_eq_true rfl) dX8_number_22 (fun H locs hW hS => ?_)
      clear hq
      refine lv_iload_n hx hb dX8_number_25 rfl (lv_at hl 0 rfl) ?_
      cases h
      exact z_iret C0 hr hlk hW hS dX8_number_26
    · replace h := z_f h hc
      clear hc
      refine lv_aload_n hx hb dX8_number_15 rfl (lv_at hl 1 rfl) ?_
      replace h := z_bd h
      obtain ⟨u4, hq, h⟩ := h
      refine z_cvv (As := []) C0 hml hl.1 hW hS (c_X8_refuse l D A b g hs u hq) mv_X8_57 (zk1 (hs 3 (by decide))) ⟨Nat.le_of_ble_eq_true rfl, Nat.le_of_ble_eq_true rfl⟩ rfl rfl (Nat.le_of_ble_eq_true rfl) dX8_number_16 (fun H locs hW hS => ?_)
      clear hq
      refine lv_iload_n hx hb dX8_number_19 rfl (lv_at hl 2 rfl) ?_
      cases h
      exact z_iret C0 hr hlk hW hS dX8_number_20
def f_X4_holds_6 (L : Nat → Nat) (fa : Nat) : Nat → Int32 → Int32 → Int32 → zU → Option (Bool × zU)
  | 0, _, _, _, _ => none
  | n + 1, x2, x4, x5, u =>
    if x2 ≤ x5 then ((z_b01 x4).bind (fun t1 => some (t1, u))) else (if (nI (L 9)) ≤ x5 then ((z_b01 x4).bind (fun t2 => some (t2, u))) else ((f_X4_worth L fa x5 u).bind (fun r3 => if z_in x5 (L 9) = true then (z_let (z_up u (L 7) (x5).toNatClampNeg r3) (fun u4 => if z_in x5 (L 9) = true then (z_let (u4 (L 7) (x5).toNatClampNeg) (fun z5 => if z5 = 0 then (f_X4_holds_6 L fa n x2 (0 : Int32) (x5 + (1 : Int32)) u4) else (f_X4_holds_6 L fa n x2 (1 : Int32) (x5 + (1 : Int32)) u4))) else none)) else none)))
theorem f_X4_holds_6_s (L : Nat → Nat) (fa : Nat) (n : Nat) (x2 : Int32) (x4 : Int32) (x5 : Int32) (u : zU) : f_X4_holds_6 L fa (n + 1) x2 x4 x5 u = if x2 ≤ x5 then ((z_b01 x4).bind (fun t1 => some (t1, u))) else (if (nI (L 9)) ≤ x5 then ((z_b01 x4).bind (fun t2 => some (t2, u))) else ((f_X4_worth L fa x5 u).bind (fun r3 => if z_in x5 (L 9) = true then (z_let (z_up u (L 7) (x5).toNatClampNeg r3) (fun u4 => if z_in x5 (L 9) = true then (z_let (u4 (L 7) (x5).toNatClampNeg) (fun z5 => if z5 = 0 then (f_X4_holds_6 L fa n x2 (0 : Int32) (x5 + (1 : Int32)) u4) else (f_X4_holds_6 L fa n x2 (1 : Int32) (x5 + (1 : Int32)) u4))) else none)) else none))) := rfl
def f_X4_holds (L : Nat → Nat) (fa : Nat) (a1 : Int32) (a2 : Int32) (u : zU) : Option (Bool × zU) :=
  f_X4_holds_6 L fa 5000 a2 (0 : Int32) a1 u
set_option maxRecDepth 100000 in
set_option maxHeartbeats 4000000 in
theorem l_X4_holds_6 {l : Launch} {D : zD} {A : Nat → Prop} {b : Nat} {p : Program} {e : Env} {s : State} {m : MethodId} {args : Array Value} {below : List Frame} {meth : Method} {c : Code} {g : zG} {L : Nat → Nat} {fa : Nat} {v : Bool} {u' : zU} (C0 : z_C p c cX4_holds s m args yX4_holds.cls D A) (hr : meth.sig.returnType = (some .boolean)) (hml : c.maxLocals = 6) (hlk : meth.locks = false) (hL : zLw g L) (hfa : (g fa).1 = 1 ∧ (g fa).2.1 = 9) : ∀ (n : Nat) (x2 : Int32) (x4 : Int32) (x5 : Int32) (u : zU) (H : Heap) (locs : List Loc) (ls : Array Slot), f_X4_holds_6 L fa n x2 x4 x5 u = some (v, u') → z_W D A b g u H → va_S A s.heap H locs → lv_has ls 6 [(0, .ref (b + (L 0))), (2, .int x2), (3, .ref (b + fa)), (4, .int x4), (5, .int x5)] → W p l e { frames := 1, cells := 0, slots := 0, locals := 26 } s m args below meth c H locs 0 0 (z_End D A b g below args s (some (.int (bI v))) u') (F0 m 6 ls []) := by
  have hx := C0.1
  have hb := C0.2.1
  intro n
  induction n with
  | zero => intro x2 x4 x5 u H locs ls h hW hS hl; cases h
  | succ n ih =>
    intro x2 x4 x5 u H locs ls h hW hS hl
    rw [f_X4_holds_6_s] at h
    refine lv_iload hx hb dX4_holds_6 (lv_at hl 4 rfl) ?_
    refine lv_iload_n hx hb dX4_holds_8 rfl (lv_at hl 1 rfl) ?_
    refine lv_icmp_ge (tgt := 59) hx hb dX4_holds_9 (by decide) (fun hc => ?_) (fun hc => ?_)
    · replace h := z_t h hc
      clear hc
      refine lv_iload hx hb dX4_holds_59 (lv_at hl 3 rfl) ?_
      replace h := z_bd h
      obtain ⟨t1, hq, h⟩ := h
      refine z_as (z_b01_eq hq) ?_
      cases h
      exact z_zret C0 hr hlk hW hS dX4_holds_61
    · replace h := z_f h hc
      clear hc
      refine lv_iload hx hb dX4_holds_12 (lv_at hl 4 rfl) ?_
      refine lv_aload_n hx hb dX4_holds_14 rfl (lv_at hl 0 rfl) ?_
      refine z_getr (o := L 7) C0 hW fl_X4_34 hL.1 rfl (hL.2 7 (by decide) (by decide)).1 dX4_holds_15 ?_
      refine z_alen (n := (L 9)) (v := nI (L 9)) C0 hW (hL.2 7 (by decide) (by decide)).2.1 (hL.2 7 (by decide) (by decide)).2.2 rfl dX4_holds_18 ?_
      refine lv_icmp_ge (tgt := 59) hx hb dX4_holds_19 (by decide) (fun hc => ?_) (fun hc => ?_)
      · replace h := z_t h hc
        clear hc
        refine lv_iload hx hb dX4_holds_59 (lv_at hl 3 rfl) ?_
        replace h := z_bd h
        obtain ⟨t2, hq, h⟩ := h
        refine z_as (z_b01_eq hq) ?_
        cases h
        exact z_zret C0 hr hlk hW hS dX4_holds_61
      · replace h := z_f h hc
        clear hc
        refine lv_aload_n hx hb dX4_holds_22 rfl (lv_at hl 0 rfl) ?_
        refine z_getr (o := L 7) C0 hW fl_X4_34 hL.1 rfl (hL.2 7 (by decide) (by decide)).1 dX4_holds_23 ?_
        refine lv_iload hx hb dX4_holds_26 (lv_at hl 4 rfl) ?_
        refine lv_aload_n hx hb dX4_holds_28 rfl (lv_at hl 0 rfl) ?_
        refine lv_iload hx hb dX4_holds_29 (lv_at hl 4 rfl) ?_
        refine lv_aload_n hx hb dX4_holds_31 rfl (lv_at hl 2 rfl) ?_
        replace h := z_bd h
        obtain ⟨r3, hq, h⟩ := h
        refine z_cvi (As := [.int x5, .ref (b + fa)]) C0 hml hl.1 hW hS (c_X4_worth l D A b g L fa hL ⟨hfa.1, hfa.2⟩ x5 u hq) mv_X4_59 hL.1 ⟨Nat.le_of_ble_eq_true rfl, Nat.le_of_ble_eq_true rfl⟩ rfl rfl (Nat.le_of_ble_eq_true rfl) dX4_holds_32 (fun H locs hW hS => ?_)
        clear hq
        replace h := z_if h
        obtain ⟨hin, h⟩ := h
        refine z_iast (n := (L 9)) C0 hW hS (hL.2 7 (by decide) (by decide)).2.1 (hL.2 7 (by decide) (by decide)).2.2 hin rfl dX4_holds_35 (fun H locs u4 e1 hW hS => ?_)
        replace h := z_ly h e1
        clear e1
        refine lv_aload_n hx hb dX4_holds_36 rfl (lv_at hl 0 rfl) ?_
        refine z_getr (o := L 7) C0 hW fl_X4_34 hL.1 rfl (hL.2 7 (by decide) (by decide)).1 dX4_holds_37 ?_
        refine lv_iload hx hb dX4_holds_40 (lv_at hl 4 rfl) ?_
        replace h := z_if h
        obtain ⟨hin, h⟩ := h
        refine z_iald (n := (L 9)) C0 hW (hL.2 7 (by decide) (by decide)).2.1 (hL.2 7 (by decide) (by decide)).2.2 hin rfl dX4_holds_42 ?_
        clear hin
        refine lv_topi (fun z5 e1 => ?_)
        replace h := z_ly h e1
        clear e1
        refine lv_if_eq (tgt := 50) hx hb dX4_holds_43 (by decide) (fun hc => ?_) (fun hc => ?_)
        · replace h := z_t h hc
          clear hc
          refine lv_iconst (v := (0 : Int32)) hx hb dX4_holds_50 (by decide) ?_
          refine lv_istore (lv' := [(4, .int (0 : Int32)), (0, .ref (b + (L 0))), (2, .int x2), (3, .ref (b + fa)), (5, .int x5)]) hx hb dX4_holds_51 hl (by decide) rfl (fun ls hl => ?_)
          refine lv_iinc (v := x5 + (1 : Int32)) (lv' := [(5, .int (x5 + (1 : Int32))), (4, .int (0 : Int32)), (0, .ref (b + (L 0))), (2, .int x2), (3, .ref (b + fa))]) hx hb dX4_holds_53 hl (k := 4) rfl rfl (by decide) rfl (fun ls hl => ?_)
          refine lv_goto (tgt := 6) hx hb dX4_holds_56 (by decide) ?_
          exact ih _ _ _ _ _ _ _ h hW hS (lv_sub hl [2, 3, 4, 1, 0] rfl)
        · replace h := z_f h hc
          clear hc
          refine lv_iconst (v := (1 : Int32)) hx hb dX4_holds_46 (by decide) ?_
          refine lv_goto (tgt := 51) hx hb dX4_holds_47 (by decide) ?_
          refine lv_istore (lv' := [(4, .int (1 : Int32)), (0, .ref (b + (L 0))), (2, .int x2), (3, .ref (b + fa)), (5, .int x5)]) hx hb dX4_holds_51 hl (by decide) rfl (fun ls hl => ?_)
          refine lv_iinc (v := x5 + (1 : Int32)) (lv' := [(5, .int (x5 + (1 : Int32))), (4, .int (1 : Int32)), (0, .ref (b + (L 0))), (2, .int x2), (3, .ref (b + fa))]) hx hb dX4_holds_53 hl (k := 4) rfl rfl (by decide) rfl (fun ls hl => ?_)
          refine lv_goto (tgt := 6) hx hb dX4_holds_56 (by decide) ?_
          exact ih _ _ _ _ _ _ _ h hW hS (lv_sub hl [2, 3, 4, 1, 0] rfl)
theorem f_X4_holds_e (L : Nat → Nat) (fa : Nat) (a1 : Int32) (a2 : Int32) (u : zU) : f_X4_holds L fa a1 a2 u = f_X4_holds_6 L fa 5000 a2 (0 : Int32) a1 u := rfl
set_option maxRecDepth 100000 in
set_option maxHeartbeats 4000000 in
theorem c_X4_holds (l : Launch) (D : zD) (A : Nat → Prop) (b : Nat) (g : zG) (L : Nat → Nat) (fa : Nat) (hL : zLw g L) (hfa : (g fa).1 = 1 ∧ (g fa).2.1 = 9) (a1 : Int32) (a2 : Int32) (u : zU) {v : Bool} {u' : zU} (h : f_X4_holds L fa a1 a2 u = some (v, u')) : z_M l D A b g yX4_holds cX4_holds 6 (some .boolean) 1 26 [.ref (b + (L 0)), .int a1, .int a2, .ref (b + fa)] u (some (.int (bI v))) u' := by
  refine z_enter (by decide) (Nat.le_of_ble_eq_true rfl) ?_
  intro p e s m below meth c ls C0 hr hml hlk hW hS hl
  have hl : lv_has ls 6 [(0, .ref (b + (L 0))), (1, .int a1), (2, .int a2), (3, .ref (b + fa))] := hl
  have hx := C0.1
  have hb := C0.2.1
  rw [f_X4_holds_e] at h
  refine lv_iconst (v := (0 : Int32)) hx hb dX4_holds_0 (by decide) ?_
  refine lv_istore (lv' := [(4, .int (0 : Int32)), (0, .ref (b + (L 0))), (1, .int a1), (2, .int a2), (3, .ref (b + fa))]) hx hb dX4_holds_1 hl (by decide) rfl (fun ls hl => ?_)
  refine lv_iload_n hx hb dX4_holds_3 rfl (lv_at hl 2 rfl) ?_
  refine lv_istore (lv' := [(5, .int a1), (4, .int (0 : Int32)), (0, .ref (b + (L 0))), (1, .int a1), (2, .int a2), (3, .ref (b + fa))]) hx hb dX4_holds_4 hl (by decide) rfl (fun ls hl => ?_)
  exact l_X4_holds_6 C0 hr hml hlk hL hfa 5000 _ _ _ _ _ _ _ h hW hS (lv_sub hl [2, 4, 5, 1, 0] rfl)
def f_X9_enlist (w : Nat) (L : Nat → Nat) (a1 : Int32) (a2 : Int32) (a3 : Int32) (a4 : Int32) (u : zU) : Option (zU) :=
  if (u w 8) < (8 : Int32) then (z_let (u w 8) (fun z1 => z_let (z_up u w 8 ((u w 8) + (1 : Int32))) (fun u2 => if z_in z1 8 = true then (z_let (z_up u2 (w + 2) (z1).toNatClampNeg a1) (fun u3 => if z_in z1 8 = true then (z_let (z_up u3 (w + 3) (z1).toNatClampNeg a2) (fun u4 => if z_in z1 8 = true then (z_let (z_up u4 (w + 4) (z1).toNatClampNeg a3) (fun u5 => if z_in z1 8 = true then (z_let (z_up u5 (w + 1) (z1).toNatClampNeg a4) (fun u6 => if a4 = (-1 : Int32) then ((f_X9_getOff w L z1 u6).bind (fun u7 => some u7)) else (some u6))) else none)) else none)) else none)) else none))) else (some u)
theorem f_X9_enlist_e (w : Nat) (L : Nat → Nat) (a1 : Int32) (a2 : Int32) (a3 : Int32) (a4 : Int32) (u : zU) : f_X9_enlist w L a1 a2 a3 a4 u = if (u w 8) < (8 : Int32) then (z_let (u w 8) (fun z1 => z_let (z_up u w 8 ((u w 8) + (1 : Int32))) (fun u2 => if z_in z1 8 = true then (z_let (z_up u2 (w + 2) (z1).toNatClampNeg a1) (fun u3 => if z_in z1 8 = true then (z_let (z_up u3 (w + 3) (z1).toNatClampNeg a2) (fun u4 => if z_in z1 8 = true then (z_let (z_up u4 (w + 4) (z1).toNatClampNeg a3) (fun u5 => if z_in z1 8 = true then (z_let (z_up u5 (w + 1) (z1).toNatClampNeg a4) (fun u6 => if a4 = (-1 : Int32) then ((f_X9_getOff w L z1 u6).bind (fun u7 => some u7)) else (some u6))) else none)) else none)) else none)) else none))) else (some u) := rfl
set_option maxRecDepth 100000 in
set_option maxHeartbeats 4000000 in
theorem c_X9_enlist (l : Launch) (D : zD) (A : Nat → Prop) (b : Nat) (g : zG) (w : Nat) (L : Nat → Nat) (hw : zWh g w L) (a1 : Int32) (a2 : Int32) (a3 : Int32) (a4 : Int32) (u : zU) {u' : zU} (h : f_X9_enlist w L a1 a2 a3 a4 u = some u') : z_M l D A b g yX9_enlist cX9_enlist 6 none 1 21 [.ref (b + w), .int a1, .int a2, .int a3, .int a4] u none u' := by
  refine z_enter (by decide) (Nat.le_of_ble_eq_true rfl) ?_
  intro p e s m below meth c ls C0 hr hml hlk hW hS hl
  have hl : lv_has ls 6 [(0, .ref (b + w)), (1, .int a1), (2, .int a2), (3, .int a3), (4, .int a4)] := hl
  have hx := C0.1
  have hb := C0.2.1
  rw [f_X9_enlist_e] at h
  refine lv_aload_n hx hb dX9_enlist_0 rfl (lv_at hl 0 rfl) ?_
  refine z_geti C0 hW fl_X9_36 hw.1 rfl dX9_enlist_1 ?_
  refine lv_bipush (v := (8 : Int32)) hx hb dX9_enlist_4 (by decide) ?_
  refine lv_icmp_lt (tgt := 10) hx hb dX9_enlist_6 (by decide) (fun hc => ?_) (fun hc => ?_)
  · replace h := z_t h hc
    clear hc
    refine lv_aload_n hx hb dX9_enlist_10 rfl (lv_at hl 0 rfl) ?_
    refine z_geti C0 hW fl_X9_36 hw.1 rfl dX9_enlist_11 ?_
    refine lv_topi (fun z1 e1 => ?_)
    replace h := z_ly h e1
    clear e1
    refine lv_istore (lv' := [(5, .int z1), (0, .ref (b + w)), (1, .int a1), (2, .int a2), (3, .int a3), (4, .int a4)]) hx hb dX9_enlist_14 hl (by decide) rfl (fun ls hl => ?_)
    refine lv_aload_n hx hb dX9_enlist_16 rfl (lv_at hl 1 rfl) ?_
    refine lv_dup hx hb dX9_enlist_17 rfl ?_
    refine z_geti C0 hW fl_X9_36 hw.1 rfl dX9_enlist_18 ?_
    refine lv_iconst (v := (1 : Int32)) hx hb dX9_enlist_21 (by decide) ?_
    refine lv_iadd hx hb dX9_enlist_22 ?_
    refine z_puti C0 hW hS fl_X9_36 hw.1 rfl rfl rfl dX9_enlist_23 (fun H locs u2 e1 hW hS => ?_)
    replace h := z_ly h e1
    clear e1
    refine lv_aload_n hx hb dX9_enlist_26 rfl (lv_at hl 1 rfl) ?_
    refine z_getr (o := w + 2) C0 hW fl_X9_15 hw.1 rfl (hw.2.1 1 (by decide)).1 dX9_enlist_27 ?_
    refine lv_iload hx hb dX9_enlist_30 (lv_at hl 0 rfl) ?_
    refine lv_iload_n hx hb dX9_enlist_32 rfl (lv_at hl 2 rfl) ?_
    replace h := z_if h
    obtain ⟨hin, h⟩ := h
    refine z_iast (n := 8) C0 hW hS (hw.2.1 1 (by decide)).2.1 (hw.2.1 1 (by decide)).2.2 hin rfl dX9_enlist_33 (fun H locs u3 e1 hW hS => ?_)
    replace h := z_ly h e1
    clear e1
    refine lv_aload_n hx hb dX9_enlist_34 rfl (lv_at hl 1 rfl) ?_
    refine z_getr (o := w + 3) C0 hW fl_X9_18 hw.1 rfl (hw.2.1 2 (by decide)).1 dX9_enlist_35 ?_
    refine lv_iload hx hb dX9_enlist_38 (lv_at hl 0 rfl) ?_
    refine lv_iload_n hx hb dX9_enlist_40 rfl (lv_at hl 3 rfl) ?_
    replace h := z_if h
    obtain ⟨hin, h⟩ := h
    refine z_iast (n := 8) C0 hW hS (hw.2.1 2 (by decide)).2.1 (hw.2.1 2 (by decide)).2.2 hin rfl dX9_enlist_41 (fun H locs u4 e1 hW hS => ?_)
    replace h := z_ly h e1
    clear e1
    refine lv_aload_n hx hb dX9_enlist_42 rfl (lv_at hl 1 rfl) ?_
    refine z_getr (o := w + 4) C0 hW fl_X9_21 hw.1 rfl (hw.2.1 3 (by decide)).1 dX9_enlist_43 ?_
    refine lv_iload hx hb dX9_enlist_46 (lv_at hl 0 rfl) ?_
    refine lv_iload_n hx hb dX9_enlist_48 rfl (lv_at hl 4 rfl) ?_
    replace h := z_if h
    obtain ⟨hin, h⟩ := h
    refine z_iast (n := 8) C0 hW hS (hw.2.1 3 (by decide)).2.1 (hw.2.1 3 (by decide)).2.2 hin rfl dX9_enlist_49 (fun H locs u5 e1 hW hS => ?_)
    replace h := z_ly h e1
    clear e1
    refine lv_aload_n hx hb dX9_enlist_50 rfl (lv_at hl 1 rfl) ?_
    refine z_getr (o := w + 1) C0 hW fl_X9_9 hw.1 rfl (hw.2.1 0 (by decide)).1 dX9_enlist_51 ?_
    refine lv_iload hx hb dX9_enlist_54 (lv_at hl 0 rfl) ?_
    refine lv_iload hx hb dX9_enlist_56 (lv_at hl 5 rfl) ?_
    replace h := z_if h
    obtain ⟨hin, h⟩ := h
    refine z_iast (n := 8) C0 hW hS (hw.2.1 0 (by decide)).2.1 (hw.2.1 0 (by decide)).2.2 hin rfl dX9_enlist_58 (fun H locs u6 e1 hW hS => ?_)
    replace h := z_ly h e1
    clear e1
    refine lv_iload hx hb dX9_enlist_59 (lv_at hl 5 rfl) ?_
    refine lv_iconst (v := (-1 : Int32)) hx hb dX9_enlist_61 (by decide) ?_
    refine lv_icmp_ne (tgt := 71) hx hb dX9_enlist_62 (by decide) (fun hc => ?_) (fun hc => ?_)
    · replace h := z_f h hc
      clear hc
      cases h
      exact z_vret C0 hr hlk hW hS dX9_enlist_71
    · replace h := z_t h hc
      clear hc
      refine lv_aload_n hx hb dX9_enlist_65 rfl (lv_at hl 1 rfl) ?_
      refine lv_iload hx hb dX9_enlist_66 (lv_at hl 0 rfl) ?_
      replace h := z_bd h
      obtain ⟨u7, hq, h⟩ := h
      refine z_cvv (As := [.int z1]) C0 hml hl.1 hW hS (c_X9_getOff l D A b g w L hw z1 u6 hq) mv_X9_100 hw.1 ⟨Nat.le_of_ble_eq_true rfl, Nat.le_of_ble_eq_true rfl⟩ rfl rfl (Nat.le_of_ble_eq_true rfl) dX9_enlist_68 (fun H locs hW hS => ?_)
      clear hq
      cases h
      exact z_vret C0 hr hlk hW hS dX9_enlist_71
  · replace h := z_f h hc
    clear hc
    cases h
    exact z_vret C0 hr hlk hW hS dX9_enlist_9
def f_X9_fill_2 (w : Nat) (L : Nat → Nat) : Nat → Int32 → Int32 → zU → Option (zU)
  | 0, _, _, _ => none
  | n + 1, x1, x2, u =>
    if (2 : Int32) ≤ x2 then (some u) else ((f_X9_firstWithMoney w L u).bind (fun r1 => if r1 = (-1 : Int32) then (f_X9_fill_2 w L n x1 (x2 + (1 : Int32)) u) else ((f_X9_isOpen w L x1 u).bind (fun t2 => if t2 = true then ((f_X9_getIn w L r1 x1 u).bind (fun u3 => f_X9_fill_2 w L n x1 (x2 + (1 : Int32)) u3)) else (f_X9_fill_2 w L n x1 (x2 + (1 : Int32)) u)))))
theorem f_X9_fill_2_s (w : Nat) (L : Nat → Nat) (n : Nat) (x1 : Int32) (x2 : Int32) (u : zU) : f_X9_fill_2 w L (n + 1) x1 x2 u = if (2 : Int32) ≤ x2 then (some u) else ((f_X9_firstWithMoney w L u).bind (fun r1 => if r1 = (-1 : Int32) then (f_X9_fill_2 w L n x1 (x2 + (1 : Int32)) u) else ((f_X9_isOpen w L x1 u).bind (fun t2 => if t2 = true then ((f_X9_getIn w L r1 x1 u).bind (fun u3 => f_X9_fill_2 w L n x1 (x2 + (1 : Int32)) u3)) else (f_X9_fill_2 w L n x1 (x2 + (1 : Int32)) u))))) := rfl
def f_X9_fill (w : Nat) (L : Nat → Nat) (a1 : Int32) (u : zU) : Option (zU) :=
  f_X9_fill_2 w L 5000 a1 (0 : Int32) u
set_option maxRecDepth 100000 in
set_option maxHeartbeats 4000000 in
theorem l_X9_fill_2 {l : Launch} {D : zD} {A : Nat → Prop} {b : Nat} {p : Program} {e : Env} {s : State} {m : MethodId} {args : Array Value} {below : List Frame} {meth : Method} {c : Code} {g : zG} {w : Nat} {L : Nat → Nat} {u' : zU} (C0 : z_C p c cX9_fill s m args yX9_fill.cls D A) (hr : meth.sig.returnType = none) (hml : c.maxLocals = 4) (hlk : meth.locks = false) (hw : zWh g w L) : ∀ (n : Nat) (x1 : Int32) (x2 : Int32) (u : zU) (H : Heap) (locs : List Loc) (ls : Array Slot), f_X9_fill_2 w L n x1 x2 u = some u' → z_W D A b g u H → va_S A s.heap H locs → lv_has ls 4 [(0, .ref (b + w)), (1, .int x1), (2, .int x2)] → W p l e { frames := 2, cells := 0, slots := 0, locals := 46 } s m args below meth c H locs 0 0 (z_End D A b g below args s none u') (F0 m 2 ls []) := by
  have hx := C0.1
  have hb := C0.2.1
  intro n
  induction n with
  | zero => intro x1 x2 u H locs ls h hW hS hl; cases h
  | succ n ih =>
    intro x1 x2 u H locs ls h hW hS hl
    rw [f_X9_fill_2_s] at h
    refine lv_iload_n hx hb dX9_fill_2 rfl (lv_at hl 2 rfl) ?_
    refine lv_iconst (v := (2 : Int32)) hx hb dX9_fill_3 (by decide) ?_
    refine lv_icmp_ge (tgt := 37) hx hb dX9_fill_4 (by decide) (fun hc => ?_) (fun hc => ?_)
    · replace h := z_t h hc
      clear hc
      cases h
      exact z_vret C0 hr hlk hW hS dX9_fill_37
    · replace h := z_f h hc
      clear hc
      refine lv_aload_n hx hb dX9_fill_7 rfl (lv_at hl 0 rfl) ?_
      replace h := z_bd h
      obtain ⟨r1, hq, h⟩ := h
      refine z_cvi (As := []) C0 hml hl.1 hW hS (c_X9_firstWithMoney l D A b g w L hw u hq) mv_X9_144 hw.1 ⟨Nat.le_of_ble_eq_true rfl, Nat.le_of_ble_eq_true rfl⟩ rfl rfl (Nat.le_of_ble_eq_true rfl) dX9_fill_8 (fun H locs hW hS => ?_)
      clear hq
      refine lv_istore_n (lv' := [(3, .int r1), (0, .ref (b + w)), (1, .int x1), (2, .int x2)]) hx hb dX9_fill_11 rfl hl (by decide) rfl (fun ls hl => ?_)
      refine lv_iload_n hx hb dX9_fill_12 rfl (lv_at hl 0 rfl) ?_
      refine lv_iconst (v := (-1 : Int32)) hx hb dX9_fill_13 (by decide) ?_
      refine lv_icmp_eq (tgt := 31) hx hb dX9_fill_14 (by decide) (fun hc => ?_) (fun hc => ?_)
      · replace h := z_t h hc
        clear hc
        refine lv_iinc (v := x2 + (1 : Int32)) (lv' := [(2, .int (x2 + (1 : Int32))), (3, .int r1), (0, .ref (b + w)), (1, .int x1)]) hx hb dX9_fill_31 hl (k := 3) rfl rfl (by decide) rfl (fun ls hl => ?_)
        refine lv_goto (tgt := 2) hx hb dX9_fill_34 (by decide) ?_
        exact ih _ _ _ _ _ _ h hW hS (lv_sub hl [2, 3, 0] rfl)
      · replace h := z_f h hc
        clear hc
        refine lv_aload_n hx hb dX9_fill_17 rfl (lv_at hl 1 rfl) ?_
        refine lv_iload_n hx hb dX9_fill_18 rfl (lv_at hl 2 rfl) ?_
        replace h := z_bd h
        obtain ⟨t2, hq, h⟩ := h
        refine z_cvi (As := [.int x1]) C0 hml hl.1 hW hS (c_X9_isOpen l D A b g w L hw x1 u hq) mv_X9_147 hw.1 ⟨Nat.le_of_ble_eq_true rfl, Nat.le_of_ble_eq_true rfl⟩ rfl rfl (Nat.le_of_ble_eq_true rfl) dX9_fill_19 (fun H locs hW hS => ?_)
        clear hq
        refine z_ifeqZ C0 (tgt := 31) dX9_fill_22 (by decide) (fun hc => ?_) (fun hc => ?_)
        · replace h := z_ff h hc
          clear hc
          refine lv_iinc (v := x2 + (1 : Int32)) (lv' := [(2, .int (x2 + (1 : Int32))), (3, .int r1), (0, .ref (b + w)), (1, .int x1)]) hx hb dX9_fill_31 hl (k := 3) rfl rfl (by decide) rfl (fun ls hl => ?_)
          refine lv_goto (tgt := 2) hx hb dX9_fill_34 (by decide) ?_
          exact ih _ _ _ _ _ _ h hW hS (lv_sub hl [2, 3, 0] rfl)
        · replace h := z_t h hc
          clear hc
          refine lv_aload_n hx hb dX9_fill_25 rfl (lv_at hl 1 rfl) ?_
          refine lv_iload_n hx hb dX9_fill_26 rfl (lv_at hl 0 rfl) ?_
          refine lv_iload_n hx hb dX9_fill_27 rfl (lv_at hl 2 rfl) ?_
          replace h := z_bd h
          obtain ⟨u3, hq, h⟩ := h
          refine z_cvv (As := [.int r1, .int x1]) C0 hml hl.1 hW hS (c_X9_getIn l D A b g w L hw r1 x1 u hq) mv_X9_151 hw.1 ⟨Nat.le_of_ble_eq_true rfl, Nat.le_of_ble_eq_true rfl⟩ rfl rfl (Nat.le_of_ble_eq_true rfl) dX9_fill_28 (fun H locs hW hS => ?_)
          clear hq
          refine lv_iinc (v := x2 + (1 : Int32)) (lv' := [(2, .int (x2 + (1 : Int32))), (3, .int r1), (0, .ref (b + w)), (1, .int x1)]) hx hb dX9_fill_31 hl (k := 3) rfl rfl (by decide) rfl (fun ls hl => ?_)
          refine lv_goto (tgt := 2) hx hb dX9_fill_34 (by decide) ?_
          exact ih _ _ _ _ _ _ h hW hS (lv_sub hl [2, 3, 0] rfl)
theorem f_X9_fill_e (w : Nat) (L : Nat → Nat) (a1 : Int32) (u : zU) : f_X9_fill w L a1 u = f_X9_fill_2 w L 5000 a1 (0 : Int32) u := rfl
set_option maxRecDepth 100000 in
set_option maxHeartbeats 4000000 in
theorem c_X9_fill (l : Launch) (D : zD) (A : Nat → Prop) (b : Nat) (g : zG) (w : Nat) (L : Nat → Nat) (hw : zWh g w L) (a1 : Int32) (u : zU) {u' : zU} (h : f_X9_fill w L a1 u = some u') : z_M l D A b g yX9_fill cX9_fill 4 none 2 46 [.ref (b + w), .int a1] u none u' := by
  refine z_enter (by decide) (Nat.le_of_ble_eq_true rfl) ?_
  intro p e s m below meth c ls C0 hr hml hlk hW hS hl
  have hl : lv_has ls 4 [(0, .ref (b + w)), (1, .int a1)] := hl
  have hx := C0.1
  have hb := C0.2.1
  rw [f_X9_fill_e] at h
  refine lv_iconst (v := (0 : Int32)) hx hb dX9_fill_0 (by decide) ?_
  refine lv_istore_n (lv' := [(2, .int (0 : Int32)), (0, .ref (b + w)), (1, .int a1)]) hx hb dX9_fill_1 rfl hl (by decide) rfl (fun ls hl => ?_)
  exact l_X9_fill_2 C0 hr hml hlk hw 5000 _ _ _ _ _ _ h hW hS (lv_sub hl [1, 2, 0] rfl)
def f_X5_readPart  (u : zU) : Option (Int32 × zU) :=
  (f_X8_value u).bind (fun r1 => if r1 = (-1 : Int32) then (z_b2 (f_X8_takes 43 u) (fun t2 u3 => if t2 = true then (z_b2 (f_X5_node (1 : Int32) (0 : Int32) (-1 : Int32) u3) (fun r31 u32 => some (r31, u32))) else (z_b2 (f_X8_takes 25 u3) (fun t4 u5 => if t4 = true then (z_b2 (f_X5_node (1 : Int32) (1 : Int32) (-1 : Int32) u5) (fun r29 u30 => some (r29, u30))) else (z_b2 (f_X8_takes 27 u5) (fun t6 u7 => if t6 = true then (z_b2 (f_X5_node (1 : Int32) (2 : Int32) (-1 : Int32) u7) (fun r27 u28 => some (r27, u28))) else (z_b2 (f_X8_takes 19 u7) (fun t8 u9 => if t8 = true then (z_b2 (f_X5_node (1 : Int32) (3 : Int32) (-1 : Int32) u9) (fun r25 u26 => some (r25, u26))) else (z_b2 (f_X8_takes 44 u9) (fun t10 u11 => if t10 = true then (z_b2 (f_X5_node (1 : Int32) (4 : Int32) (-1 : Int32) u11) (fun r23 u24 => some (r23, u24))) else (z_b2 (f_X8_takes 45 u11) (fun t12 u13 => if t12 = true then (z_b2 (f_X5_node (1 : Int32) (5 : Int32) (-1 : Int32) u13) (fun r21 u22 => some (r21, u22))) else (z_b2 (f_X8_takes 21 u13) (fun t14 u15 => if t14 = true then (z_b2 (f_X5_node (1 : Int32) (6 : Int32) (-1 : Int32) u15) (fun r19 u20 => some (r19, u20))) else ((f_X8_refuse u15).bind (fun u16 => z_b2 (f_X5_node (1 : Int32) (-1 : Int32) (-1 : Int32) u16) (fun r17 u18 => some (r17, u18)))))))))))))))))) else (z_let (f_X8_pass u) (fun u33 => z_b2 (f_X5_node (0 : Int32) r1 (-1 : Int32) u33) (fun r34 u35 => some (r34, u35)))))
theorem f_X5_readPart_e  (u : zU) : f_X5_readPart u = (f_X8_value u).bind (fun r1 => if r1 = (-1 : Int32) then (z_b2 (f_X8_takes 43 u) (fun t2 u3 => if t2 = true then (z_b2 (f_X5_node (1 : Int32) (0 : Int32) (-1 : Int32) u3) (fun r31 u32 => some (r31, u32))) else (z_b2 (f_X8_takes 25 u3) (fun t4 u5 => if t4 = true then (z_b2 (f_X5_node (1 : Int32) (1 : Int32) (-1 : Int32) u5) (fun r29 u30 => some (r29, u30))) else (z_b2 (f_X8_takes 27 u5) (fun t6 u7 => if t6 = true then (z_b2 (f_X5_node (1 : Int32) (2 : Int32) (-1 : Int32) u7) (fun r27 u28 => some (r27, u28))) else (z_b2 (f_X8_takes 19 u7) (fun t8 u9 => if t8 = true then (z_b2 (f_X5_node (1 : Int32) (3 : Int32) (-1 : Int32) u9) (fun r25 u26 => some (r25, u26))) else (z_b2 (f_X8_takes 44 u9) (fun t10 u11 => if t10 = true then (z_b2 (f_X5_node (1 : Int32) (4 : Int32) (-1 : Int32) u11) (fun r23 u24 => some (r23, u24))) else (z_b2 (f_X8_takes 45 u11) (fun t12 u13 => if t12 = true then (z_b2 (f_X5_node (1 : Int32) (5 : Int32) (-1 : Int32) u13) (fun r21 u22 => some (r21, u22))) else (z_b2 (f_X8_takes 21 u13) (fun t14 u15 => if t14 = true then (z_b2 (f_X5_node (1 : Int32) (6 : Int32) (-1 : Int32) u15) (fun r19 u20 => some (r19, u20))) else ((f_X8_refuse u15).bind (fun u16 => z_b2 (f_X5_node (1 : Int32) (-1 : Int32) (-1 : Int32) u16) (fun r17 u18 => some (r17, u18)))))))))))))))))) else (z_let (f_X8_pass u) (fun u33 => z_b2 (f_X5_node (0 : Int32) r1 (-1 : Int32) u33) (fun r34 u35 => some (r34, u35))))) := rfl
set_option maxRecDepth 100000 in
set_option maxHeartbeats 4000000 in
theorem c_X5_readPart (l : Launch) (D : zD) (A : Nat → Prop) (b : Nat) (g : zG) (hs : zSt g)  (u : zU) {v : Int32} {u' : zU} (h : f_X5_readPart u = some (v, u')) : z_M l D A b g yX5_readPart cX5_readPart 3 (some .int) 5 109 [.ref (b + 29)] u (some (.int v)) u' := by
  refine z_enter (by decide) (Nat.le_of_ble_eq_true rfl) ?_
  intro p e s m below meth c ls C0 hr hml hlk hW hS hl
  have hl : lv_has ls 3 [(0, .ref (b + 29))] := hl
  have hx := C0.1
  have hb := C0.2.1
  rw [f_X5_readPart_e] at h
  refine lv_aload_n hx hb dX5_readPart_0 rfl (lv_at hl 0 rfl) ?_
  refine z_getr (o := 3) C0 hW fl_X5_37 (zk1 (hs 29 (by decide))) rfl (zk3 (hs 29 (by decide)) 0) dX5_readPart_1 ?_
  replace h := z_bd h
  obtain ⟨r1, hq, h⟩ := h
  refine z_cvi (As := []) C0 hml hl.1 hW hS (c_X8_value l D A b g hs u hq) mv_X5_107 (zk1 (hs 3 (by decide))) ⟨Nat.le_of_ble_eq_true rfl, Nat.le_of_ble_eq_true rfl⟩ rfl rfl (Nat.le_of_ble_eq_true rfl) dX5_readPart_4 (fun H locs hW hS => ?_)
  clear hq
  refine lv_istore_n (lv' := [(1, .int r1), (0, .ref (b + 29))]) hx hb dX5_readPart_7 rfl hl (by decide) rfl (fun ls hl => ?_)
  refine lv_iload_n hx hb dX5_readPart_8 rfl (lv_at hl 0 rfl) ?_
  refine lv_iconst (v := (-1 : Int32)) hx hb dX5_readPart_9 (by decide) ?_
  refine lv_icmp_eq (tgt := 28) hx hb dX5_readPart_10 (by decide) (fun hc => ?_) (fun hc => ?_)
  · replace h := z_t h hc
    clear hc
    refine lv_aload_n hx hb dX5_readPart_28 rfl (lv_at hl 1 rfl) ?_
    refine z_getr (o := 3) C0 hW fl_X5_37 (zk1 (hs 29 (by decide))) rfl (zk3 (hs 29 (by decide)) 0) dX5_readPart_29 ?_
    refine z_ldcS (k := 43) (tx := "cradle") C0 (List.mem_of_getElem? (i := 43) rfl) dX5_readPart_32 ?_
    replace h := z_bd2 h
    obtain ⟨t2, u3, hq, h⟩ := h
    refine z_cvi (As := [.ref (sA D 43)]) C0 hml hl.1 hW hS (c_X8_takes l D A b g hs 43 (by decide) u hq) mv_X5_43 (zk1 (hs 3 (by decide))) ⟨Nat.le_of_ble_eq_true rfl, Nat.le_of_ble_eq_true rfl⟩ rfl rfl (Nat.le_of_ble_eq_true rfl) dX5_readPart_34 (fun H locs hW hS => ?_)
    clear hq
    refine z_ifeqZ C0 (tgt := 44) dX5_readPart_37 (by decide) (fun hc => ?_) (fun hc => ?_)
    · replace h := z_ff h hc
      clear hc
      refine lv_aload_n hx hb dX5_readPart_44 rfl (lv_at hl 1 rfl) ?_
      refine z_getr (o := 3) C0 hW fl_X5_37 (zk1 (hs 29 (by decide))) rfl (zk3 (hs 29 (by decide)) 0) dX5_readPart_45 ?_
      refine z_ldcS (k := 25) (tx := "weight") C0 (List.mem_of_getElem? (i := 44) rfl) dX5_readPart_48 ?_
      replace h := z_bd2 h
      obtain ⟨t4, u5, hq, h⟩ := h
      refine z_cvi (As := [.ref (sA D 25)]) C0 hml hl.1 hW hS (c_X8_takes l D A b g hs 25 (by decide) u3 hq) mv_X5_43 (zk1 (hs 3 (by decide))) ⟨Nat.le_of_ble_eq_true rfl, Nat.le_of_ble_eq_true rfl⟩ rfl rfl (Nat.le_of_ble_eq_true rfl) dX5_readPart_50 (fun H locs hW hS => ?_)
      clear hq
      refine z_ifeqZ C0 (tgt := 60) dX5_readPart_53 (by decide) (fun hc => ?_) (fun hc => ?_)
      · replace h := z_ff h hc
        clear hc
        refine lv_aload_n hx hb dX5_readPart_60 rfl (lv_at hl 1 rfl) ?_
        refine z_getr (o := 3) C0 hW fl_X5_37 (zk1 (hs 29 (by decide))) rfl (zk3 (hs 29 (by decide)) 0) dX5_readPart_61 ?_
        refine z_ldcS (k := 27) (tx := "party") C0 (List.mem_of_getElem? (i := 45) rfl) dX5_readPart_64 ?_
        replace h := z_bd2 h
        obtain ⟨t6, u7, hq, h⟩ := h
        refine z_cvi (As := [.ref (sA D 27)]) C0 hml hl.1 hW hS (c_X8_takes l D A b g hs 27 (by decide) u5 hq) mv_X5_43 (zk1 (hs 3 (by decide))) ⟨Nat.le_of_ble_eq_true rfl, Nat.le_of_ble_eq_true rfl⟩ rfl rfl (Nat.le_of_ble_eq_true rfl) dX5_readPart_66 (fun H locs hW hS => ?_)
        clear hq
        refine z_ifeqZ C0 (tgt := 76) dX5_readPart_69 (by decide) (fun hc => ?_) (fun hc => ?_)
        · replace h := z_ff h hc
          clear hc
          refine lv_aload_n hx hb dX5_readPart_76 rfl (lv_at hl 1 rfl) ?_
          refine z_getr (o := 3) C0 hW fl_X5_37 (zk1 (hs 29 (by decide))) rfl (zk3 (hs 29 (by decide)) 0) dX5_readPart_77 ?_
          refine z_ldcS (k := 19) (tx := "bolts") C0 (List.mem_of_getElem? (i := 46) rfl) dX5_readPart_80 ?_
          replace h := z_bd2 h
          obtain ⟨t8, u9, hq, h⟩ := h
          refine z_cvi (As := [.ref (sA D 19)]) C0 hml hl.1 hW hS (c_X8_takes l D A b g hs 19 (by decide) u7 hq) mv_X5_43 (zk1 (hs 3 (by decide))) ⟨Nat.le_of_ble_eq_true rfl, Nat.le_of_ble_eq_true rfl⟩ rfl rfl (Nat.le_of_ble_eq_true rfl) dX5_readPart_82 (fun H locs hW hS => ?_)
          clear hq
          refine z_ifeqZ C0 (tgt := 92) dX5_readPart_85 (by decide) (fun hc => ?_) (fun hc => ?_)
          · replace h := z_ff h hc
            clear hc
            refine lv_aload_n hx hb dX5_readPart_92 rfl (lv_at hl 1 rfl) ?_
            refine z_getr (o := 3) C0 hW fl_X5_37 (zk1 (hs 29 (by decide))) rfl (zk3 (hs 29 (by decide)) 0) dX5_readPart_93 ?_
            refine z_ldcS (k := 44) (tx := "stop") C0 (List.mem_of_getElem? (i := 47) rfl) dX5_readPart_96 ?_
            replace h := z_bd2 h
            obtain ⟨t10, u11, hq, h⟩ := h
            refine z_cvi (As := [.ref (sA D 44)]) C0 hml hl.1 hW hS (c_X8_takes l D A b g hs 44 (by decide) u9 hq) mv_X5_43 (zk1 (hs 3 (by decide))) ⟨Nat.le_of_ble_eq_true rfl, Nat.le_of_ble_eq_true rfl⟩ rfl rfl (Nat.le_of_ble_eq_true rfl) dX5_readPart_98 (fun H locs hW hS => ?_)
            clear hq
            refine z_ifeqZ C0 (tgt := 108) dX5_readPart_101 (by decide) (fun hc => ?_) (fun hc => ?_)
            · replace h := z_ff h hc
              clear hc
              refine lv_aload_n hx hb dX5_readPart_108 rfl (lv_at hl 1 rfl) ?_
              refine z_getr (o := 3) C0 hW fl_X5_37 (zk1 (hs 29 (by decide))) rfl (zk3 (hs 29 (by decide)) 0) dX5_readPart_109 ?_
              refine z_ldcS (k := 45) (tx := "height") C0 (List.mem_of_getElem? (i := 48) rfl) dX5_readPart_112 ?_
              replace h := z_bd2 h
              obtain ⟨t12, u13, hq, h⟩ := h
              refine z_cvi (As := [.ref (sA D 45)]) C0 hml hl.1 hW hS (c_X8_takes l D A b g hs 45 (by decide) u11 hq) mv_X5_43 (zk1 (hs 3 (by decide))) ⟨Nat.le_of_ble_eq_true rfl, Nat.le_of_ble_eq_true rfl⟩ rfl rfl (Nat.le_of_ble_eq_true rfl) dX5_readPart_114 (fun H locs hW hS => ?_)
              clear hq
              refine z_ifeqZ C0 (tgt := 124) dX5_readPart_117 (by decide) (fun hc => ?_) (fun hc => ?_)
              · replace h := z_ff h hc
                clear hc
                refine lv_aload_n hx hb dX5_readPart_124 rfl (lv_at hl 1 rfl) ?_
                refine z_getr (o := 3) C0 hW fl_X5_37 (zk1 (hs 29 (by decide))) rfl (zk3 (hs 29 (by decide)) 0) dX5_readPart_125 ?_
                refine z_ldcS (k := 21) (tx := "chest") C0 (List.mem_of_getElem? (i := 49) rfl) dX5_readPart_128 ?_
                replace h := z_bd2 h
                obtain ⟨t14, u15, hq, h⟩ := h
                refine z_cvi (As := [.ref (sA D 21)]) C0 hml hl.1 hW hS (c_X8_takes l D A b g hs 21 (by decide) u13 hq) mv_X5_43 (zk1 (hs 3 (by decide))) ⟨Nat.le_of_ble_eq_true rfl, Nat.le_of_ble_eq_true rfl⟩ rfl rfl (Nat.le_of_ble_eq_true rfl) dX5_readPart_130 (fun H locs hW hS => ?_)
                clear hq
                refine z_ifeqZ C0 (tgt := 141) dX5_readPart_133 (by decide) (fun hc => ?_) (fun hc => ?_)
                · replace h := z_ff h hc
                  clear hc
                  refine lv_iconst (v := (-1 : Int32)) hx hb dX5_readPart_141 (by decide) ?_
                  refine lv_istore_n (lv' := [(2, .int (-1 : Int32)), (1, .int r1), (0, .ref (b + 29))]) hx hb dX5_readPart_142 rfl hl (by decide) rfl (fun ls hl => ?_)
                  refine lv_iload_n hx hb dX5_readPart_143 rfl (lv_at hl 0 rfl) ?_
                  refine lv_iconst (v := (-1 : Int32)) hx hb dX5_readPart_144 (by decide) ?_
                  refine lv_icmp_ne (tgt := 155) hx hb dX5_readPart_145 (by decide) (fun hc => ?_) (fun hc => ?_)
                  · exact absurd hc (by decide)
                  · clear hc
                    refine lv_aload_n hx hb dX5_readPart_148 rfl (lv_at hl 2 rfl) ?_
                    refine z_getr (o := 3) C0 hW fl_X5_37 (zk1 (hs 29 (by decide))) rfl (zk3 (hs 29 (by decide)) 0) dX5_readPart_149 ?_
                    replace h := z_bd h
                    obtain ⟨u16, hq, h⟩ := h
                    refine z_cvv (As := []) C0 hml hl.1 hW hS (c_X8_refuse l D A b g hs u15 hq) mv_X5_53 (zk1 (hs 3 (by decide))) ⟨Nat.le_of_ble_eq_true rfl, Nat.le_of_ble_eq_true rfl⟩ rfl rfl (Nat.le_of_ble_eq_true rfl) dX5_readPart_152 (fun H locs hW hS => ?_)
                    clear hq
                    refine lv_aload_n hx hb dX5_readPart_155 rfl (lv_at hl 2 rfl) ?_
                    refine lv_iconst (v := (1 : Int32)) hx hb dX5_readPart_156 (by decide) ?_
                    refine lv_iload_n hx hb dX5_readPart_157 rfl (lv_at hl 0 rfl) ?_
                    refine lv_iconst (v := (-1 : Int32)) hx hb dX5_readPart_158 (by decide) ?_
                    replace h := z_bd2 h
                    obtain ⟨r17, u18, hq, h⟩ := h
                    refine z_cvi (As := [.int (1 : Int32), .int (-1 : Int32), .int (-1 : Int32)]) C0 hml hl.1 hW hS (c_X5_node l D A b g hs (1 : Int32) (-1 : Int32) (-1 : Int32) u16 hq) mv_X5_76 (zk1 (hs 29 (by decide))) ⟨Nat.le_of_ble_eq_true rfl, Nat.le_of_ble_eq_true rfl⟩ rfl rfl (Nat.le_of_ble_eq_true rfl) dX5_readPart_159 (fun H locs hW hS => ?_)
                    clear hq
                    cases h
                    exact z_iret C0 hr hlk hW hS dX5_readPart_162
                · replace h := z_t h hc
                  clear hc
                  refine lv_bipush (v := (6 : Int32)) hx hb dX5_readPart_136 (by decide) ?_
                  refine lv_goto (tgt := 142) hx hb dX5_readPart_138 (by decide) ?_
                  refine lv_istore_n (lv' := [(2, .int (6 : Int32)), (1, .int r1), (0, .ref (b + 29))]) hx hb dX5_readPart_142 rfl hl (by decide) rfl (fun ls hl => ?_)
                  refine lv_iload_n hx hb dX5_readPart_143 rfl (lv_at hl 0 rfl) ?_
                  refine lv_iconst (v := (-1 : Int32)) hx hb dX5_readPart_144 (by decide) ?_
                  refine lv_icmp_ne (tgt := 155) hx hb dX5_readPart_145 (by decide) (fun hc => ?_) (fun hc => ?_)
                  · clear hc
                    refine lv_aload_n hx hb dX5_readPart_155 rfl (lv_at hl 2 rfl) ?_
                    refine lv_iconst (v := (1 : Int32)) hx hb dX5_readPart_156 (by decide) ?_
                    refine lv_iload_n hx hb dX5_readPart_157 rfl (lv_at hl 0 rfl) ?_
                    refine lv_iconst (v := (-1 : Int32)) hx hb dX5_readPart_158 (by decide) ?_
                    replace h := z_bd2 h
                    obtain ⟨r19, u20, hq, h⟩ := h
                    refine z_cvi (As := [.int (1 : Int32), .int (6 : Int32), .int (-1 : Int32)]) C0 hml hl.1 hW hS (c_X5_node l D A b g hs (1 : Int32) (6 : Int32) (-1 : Int32) u15 hq) mv_X5_76 (zk1 (hs 29 (by decide))) ⟨Nat.le_of_ble_eq_true rfl, Nat.le_of_ble_eq_true rfl⟩ rfl rfl (Nat.le_of_ble_eq_true rfl) dX5_readPart_159 (fun H locs hW hS => ?_)
                    clear hq
                    cases h
                    exact z_iret C0 hr hlk hW hS dX5_readPart_162
                  · exact absurd hc (by decide)
              · replace h := z_t h hc
                clear hc
                refine lv_iconst (v := (5 : Int32)) hx hb dX5_readPart_120 (by decide) ?_
                refine lv_goto (tgt := 142) hx hb dX5_readPart_121 (by decide) ?_
                refine lv_istore_n (lv' := [(2, .int (5 : Int32)), (1, .int r1), (0, .ref (b + 29))]) hx hb dX5_readPart_142 rfl hl (by decide) rfl (fun ls hl => ?_)
                refine lv_iload_n hx hb dX5_readPart_143 rfl (lv_at hl 0 rfl) ?_
                refine lv_iconst (v := (-1 : Int32)) hx hb dX5_readPart_144 (by decide) ?_
                refine lv_icmp_ne (tgt := 155) hx hb dX5_readPart_145 (by decide) (fun hc => ?_) (fun hc => ?_)
                · clear hc
                  refine lv_aload_n hx hb dX5_readPart_155 rfl (lv_at hl 2 rfl) ?_
                  refine lv_iconst (v := (1 : Int32)) hx hb dX5_readPart_156 (by decide) ?_
                  refine lv_iload_n hx hb dX5_readPart_157 rfl (lv_at hl 0 rfl) ?_
                  refine lv_iconst (v := (-1 : Int32)) hx hb dX5_readPart_158 (by decide) ?_
                  replace h := z_bd2 h
                  obtain ⟨r21, u22, hq, h⟩ := h
                  refine z_cvi (As := [.int (1 : Int32), .int (5 : Int32), .int (-1 : Int32)]) C0 hml hl.1 hW hS (c_X5_node l D A b g hs (1 : Int32) (5 : Int32) (-1 : Int32) u13 hq) mv_X5_76 (zk1 (hs 29 (by decide))) ⟨Nat.le_of_ble_eq_true rfl, Nat.le_of_ble_eq_true rfl⟩ rfl rfl (Nat.le_of_ble_eq_true rfl) dX5_readPart_159 (fun H locs hW hS => ?_)
                  clear hq
                  cases h
                  exact z_iret C0 hr hlk hW hS dX5_readPart_162
                · exact absurd hc (by decide)
            · replace h := z_t h hc
              clear hc
              refine lv_iconst (v := (4 : Int32)) hx hb dX5_readPart_104 (by decide) ?_
              refine lv_goto (tgt := 142) hx hb dX5_readPart_105 (by decide) ?_
              refine lv_istore_n (lv' := [(2, .int (4 : Int32)), (1, .int r1), (0, .ref (b + 29))]) hx hb dX5_readPart_142 rfl hl (by decide) rfl (fun ls hl => ?_)
              refine lv_iload_n hx hb dX5_readPart_143 rfl (lv_at hl 0 rfl) ?_
              refine lv_iconst (v := (-1 : Int32)) hx hb dX5_readPart_144 (by decide) ?_
              refine lv_icmp_ne (tgt := 155) hx hb dX5_readPart_145 (by decide) (fun hc => ?_) (fun hc => ?_)
              · clear hc
                refine lv_aload_n hx hb dX5_readPart_155 rfl (lv_at hl 2 rfl) ?_
                refine lv_iconst (v := (1 : Int32)) hx hb dX5_readPart_156 (by decide) ?_
                refine lv_iload_n hx hb dX5_readPart_157 rfl (lv_at hl 0 rfl) ?_
                refine lv_iconst (v := (-1 : Int32)) hx hb dX5_readPart_158 (by decide) ?_
                replace h := z_bd2 h
                obtain ⟨r23, u24, hq, h⟩ := h
                refine z_cvi (As := [.int (1 : Int32), .int (4 : Int32), .int (-1 : Int32)]) C0 hml hl.1 hW hS (c_X5_node l D A b g hs (1 : Int32) (4 : Int32) (-1 : Int32) u11 hq) mv_X5_76 (zk1 (hs 29 (by decide))) ⟨Nat.le_of_ble_eq_true rfl, Nat.le_of_ble_eq_true rfl⟩ rfl rfl (Nat.le_of_ble_eq_true rfl) dX5_readPart_159 (fun H locs hW hS => ?_)
                clear hq
                cases h
                exact z_iret C0 hr hlk hW hS dX5_readPart_162
              · exact absurd hc (by decide)
          · replace h := z_t h hc
            clear hc
            refine lv_iconst (v := (3 : Int32)) hx hb dX5_readPart_88 (by decide) ?_
            refine lv_goto (tgt := 142) hx hb dX5_readPart_89 (by decide) ?_
            refine lv_istore_n (lv' := [(2, .int (3 : Int32)), (1, .int r1), (0, .ref (b + 29))]) hx hb dX5_readPart_142 rfl hl (by decide) rfl (fun ls hl => ?_)
            refine lv_iload_n hx hb dX5_readPart_143 rfl (lv_at hl 0 rfl) ?_
            refine lv_iconst (v := (-1 : Int32)) hx hb dX5_readPart_144 (by decide) ?_
            refine lv_icmp_ne (tgt := 155) hx hb dX5_readPart_145 (by decide) (fun hc => ?_) (fun hc => ?_)
            · clear hc
              refine lv_aload_n hx hb dX5_readPart_155 rfl (lv_at hl 2 rfl) ?_
              refine lv_iconst (v := (1 : Int32)) hx hb dX5_readPart_156 (by decide) ?_
              refine lv_iload_n hx hb dX5_readPart_157 rfl (lv_at hl 0 rfl) ?_
              refine lv_iconst (v := (-1 : Int32)) hx hb dX5_readPart_158 (by decide) ?_
              replace h := z_bd2 h
              obtain ⟨r25, u26, hq, h⟩ := h
              refine z_cvi (As := [.int (1 : Int32), .int (3 : Int32), .int (-1 : Int32)]) C0 hml hl.1 hW hS (c_X5_node l D A b g hs (1 : Int32) (3 : Int32) (-1 : Int32) u9 hq) mv_X5_76 (zk1 (hs 29 (by decide))) ⟨Nat.le_of_ble_eq_true rfl, Nat.le_of_ble_eq_true rfl⟩ rfl rfl (Nat.le_of_ble_eq_true rfl) dX5_readPart_159 (fun H locs hW hS => ?_)
              clear hq
              cases h
              exact z_iret C0 hr hlk hW hS dX5_readPart_162
            · exact absurd hc (by decide)
        · replace h := z_t h hc
          clear hc
          refine lv_iconst (v := (2 : Int32)) hx hb dX5_readPart_72 (by decide) ?_
          refine lv_goto (tgt := 142) hx hb dX5_readPart_73 (by decide) ?_
          refine lv_istore_n (lv' := [(2, .int (2 : Int32)), (1, .int r1), (0, .ref (b + 29))]) hx hb dX5_readPart_142 rfl hl (by decide) rfl (fun ls hl => ?_)
          refine lv_iload_n hx hb dX5_readPart_143 rfl (lv_at hl 0 rfl) ?_
          refine lv_iconst (v := (-1 : Int32)) hx hb dX5_readPart_144 (by decide) ?_
          refine lv_icmp_ne (tgt := 155) hx hb dX5_readPart_145 (by decide) (fun hc => ?_) (fun hc => ?_)
          · clear hc
            refine lv_aload_n hx hb dX5_readPart_155 rfl (lv_at hl 2 rfl) ?_
            refine lv_iconst (v := (1 : Int32)) hx hb dX5_readPart_156 (by decide) ?_
            refine lv_iload_n hx hb dX5_readPart_157 rfl (lv_at hl 0 rfl) ?_
            refine lv_iconst (v := (-1 : Int32)) hx hb dX5_readPart_158 (by decide) ?_
            replace h := z_bd2 h
            obtain ⟨r27, u28, hq, h⟩ := h
            refine z_cvi (As := [.int (1 : Int32), .int (2 : Int32), .int (-1 : Int32)]) C0 hml hl.1 hW hS (c_X5_node l D A b g hs (1 : Int32) (2 : Int32) (-1 : Int32) u7 hq) mv_X5_76 (zk1 (hs 29 (by decide))) ⟨Nat.le_of_ble_eq_true rfl, Nat.le_of_ble_eq_true rfl⟩ rfl rfl (Nat.le_of_ble_eq_true rfl) dX5_readPart_159 (fun H locs hW hS => ?_)
            clear hq
            cases h
            exact z_iret C0 hr hlk hW hS dX5_readPart_162
          · exact absurd hc (by decide)
      · replace h := z_t h hc
        clear hc
        refine lv_iconst (v := (1 : Int32)) hx hb dX5_readPart_56 (by decide) ?_
        refine lv_goto (tgt := 142) hx hb dX5_readPart_57 (by decide) ?_
        refine lv_istore_n (lv' := [(2, .int (1 : Int32)), (1, .int r1), (0, .ref (b + 29))]) hx hb dX5_readPart_142 rfl hl (by decide) rfl (fun ls hl => ?_)
        refine lv_iload_n hx hb dX5_readPart_143 rfl (lv_at hl 0 rfl) ?_
        refine lv_iconst (v := (-1 : Int32)) hx hb dX5_readPart_144 (by decide) ?_
        refine lv_icmp_ne (tgt := 155) hx hb dX5_readPart_145 (by decide) (fun hc => ?_) (fun hc => ?_)
        · clear hc
          refine lv_aload_n hx hb dX5_readPart_155 rfl (lv_at hl 2 rfl) ?_
          refine lv_iconst (v := (1 : Int32)) hx hb dX5_readPart_156 (by decide) ?_
          refine lv_iload_n hx hb dX5_readPart_157 rfl (lv_at hl 0 rfl) ?_
          refine lv_iconst (v := (-1 : Int32)) hx hb dX5_readPart_158 (by decide) ?_
          replace h := z_bd2 h
          obtain ⟨r29, u30, hq, h⟩ := h
          refine z_cvi (As := [.int (1 : Int32), .int (1 : Int32), .int (-1 : Int32)]) C0 hml hl.1 hW hS (c_X5_node l D A b g hs (1 : Int32) (1 : Int32) (-1 : Int32) u5 hq) mv_X5_76 (zk1 (hs 29 (by decide))) ⟨Nat.le_of_ble_eq_true rfl, Nat.le_of_ble_eq_true rfl⟩ rfl rfl (Nat.le_of_ble_eq_true rfl) dX5_readPart_159 (fun H locs hW hS => ?_)
          clear hq
          cases h
          exact z_iret C0 hr hlk hW hS dX5_readPart_162
        · exact absurd hc (by decide)
    · replace h := z_t h hc
      clear hc
      refine lv_iconst (v := (0 : Int32)) hx hb dX5_readPart_40 (by decide) ?_
      refine lv_goto (tgt := 142) hx hb dX5_readPart_41 (by decide) ?_
      refine lv_istore_n (lv' := [(2, .int (0 : Int32)), (1, .int r1), (0, .ref (b + 29))]) hx hb dX5_readPart_142 rfl hl (by decide) rfl (fun ls hl => ?_)
      refine lv_iload_n hx hb dX5_readPart_143 rfl (lv_at hl 0 rfl) ?_
      refine lv_iconst (v := (-1 : Int32)) hx hb dX5_readPart_144 (by decide) ?_
      refine lv_icmp_ne (tgt := 155) hx hb dX5_readPart_145 (by decide) (fun hc => ?_) (fun hc => ?_)
      · clear hc
        refine lv_aload_n hx hb dX5_readPart_155 rfl (lv_at hl 2 rfl) ?_
        refine lv_iconst (v := (1 : Int32)) hx hb dX5_readPart_156 (by decide) ?_
        refine lv_iload_n hx hb dX5_readPart_157 rfl (lv_at hl 0 rfl) ?_
        refine lv_iconst (v := (-1 : Int32)) hx hb dX5_readPart_158 (by decide) ?_
        replace h := z_bd2 h
        obtain ⟨r31, u32, hq, h⟩ := h
        refine z_cvi (As := [.int (1 : Int32), .int (0 : Int32), .int (-1 : Int32)]) C0 hml hl.1 hW hS (c_X5_node l D A b g hs (1 : Int32) (0 : Int32) (-1 : Int32) u3 hq) mv_X5_76 (zk1 (hs 29 (by decide))) ⟨Nat.le_of_ble_eq_true rfl, Nat.le_of_ble_eq_true rfl⟩ rfl rfl (Nat.le_of_ble_eq_true rfl) dX5_readPart_159 (fun H locs hW hS => ?_)
        clear hq
        cases h
        exact z_iret C0 hr hlk hW hS dX5_readPart_162
      · exact absurd hc (by decide)
  · replace h := z_f h hc
    clear hc
    refine lv_aload_n hx hb dX5_readPart_13 rfl (lv_at hl 1 rfl) ?_
    refine z_getr (o := 3) C0 hW fl_X5_37 (zk1 (hs 29 (by decide))) rfl (zk3 (hs 29 (by decide)) 0) dX5_readPart_14 ?_
    obtain ⟨u33, hq⟩ : ∃ y, f_X8_pass u = y := ⟨_, rfl⟩
    replace h := z_lz h hq
    refine z_cvv (As := []) C0 hml hl.1 hW hS (c_X8_pass l D A b g hs u hq) mv_X5_110 (zk1 (hs 3 (by decide))) ⟨Nat.le_of_ble_eq_true rfl, Nat.le_of_ble_eq_true rfl⟩ rfl rfl (Nat.le_of_ble_eq_true rfl) dX5_readPart_17 (fun H locs hW hS => ?_)
    clear hq
    refine lv_aload_n hx hb dX5_readPart_20 rfl (lv_at hl 1 rfl) ?_
    refine lv_iconst (v := (0 : Int32)) hx hb dX5_readPart_21 (by decide) ?_
    refine lv_iload_n hx hb dX5_readPart_22 rfl (lv_at hl 0 rfl) ?_
    refine lv_iconst (v := (-1 : Int32)) hx hb dX5_readPart_23 (by decide) ?_
    replace h := z_bd2 h
    obtain ⟨r34, u35, hq, h⟩ := h
    refine z_cvi (As := [.int (0 : Int32), .int r1, .int (-1 : Int32)]) C0 hml hl.1 hW hS (c_X5_node l D A b g hs (0 : Int32) r1 (-1 : Int32) u33 hq) mv_X5_76 (zk1 (hs 29 (by decide))) ⟨Nat.le_of_ble_eq_true rfl, Nat.le_of_ble_eq_true rfl⟩ rfl rfl (Nat.le_of_ble_eq_true rfl) dX5_readPart_24 (fun H locs hW hS => ?_)
    clear hq
    cases h
    exact z_iret C0 hr hlk hW hS dX5_readPart_27
def f_X1_readRider (L : Nat → Nat)  (u : zU) : Option (zU) :=
  (f_X8_must 25 u).bind (fun u1 => z_b2 (f_X8_number (1 : Int32) (9 : Int32) u1) (fun r2 u3 => (f_X8_must 26 u3).bind (fun u4 => z_b2 (f_X8_number (0 : Int32) (999 : Int32) u4) (fun r5 u6 => (f_X8_must 27 u6).bind (fun u7 => z_b2 (f_X8_number (0 : Int32) (3 : Int32) u7) (fun r8 u9 => z_b2 (f_X8_takes 28 u9) (fun t10 u11 => if t10 = true then (z_b2 (f_X1_readOpenCradle L u11) (fun r13 u14 => if (u14 3 5) = (-1 : Int32) then ((f_X9_enlist 17 L r2 r5 r8 r13 u14).bind (fun u15 => some u15)) else (some u14))) else (if (u11 3 5) = (-1 : Int32) then ((f_X9_enlist 17 L r2 r5 r8 (-1 : Int32) u11).bind (fun u12 => some u12)) else (some u11)))))))))
theorem f_X1_readRider_e (L : Nat → Nat)  (u : zU) : f_X1_readRider L u = (f_X8_must 25 u).bind (fun u1 => z_b2 (f_X8_number (1 : Int32) (9 : Int32) u1) (fun r2 u3 => (f_X8_must 26 u3).bind (fun u4 => z_b2 (f_X8_number (0 : Int32) (999 : Int32) u4) (fun r5 u6 => (f_X8_must 27 u6).bind (fun u7 => z_b2 (f_X8_number (0 : Int32) (3 : Int32) u7) (fun r8 u9 => z_b2 (f_X8_takes 28 u9) (fun t10 u11 => if t10 = true then (z_b2 (f_X1_readOpenCradle L u11) (fun r13 u14 => if (u14 3 5) = (-1 : Int32) then ((f_X9_enlist 17 L r2 r5 r8 r13 u14).bind (fun u15 => some u15)) else (some u14))) else (if (u11 3 5) = (-1 : Int32) then ((f_X9_enlist 17 L r2 r5 r8 (-1 : Int32) u11).bind (fun u12 => some u12)) else (some u11))))))))) := rfl
set_option maxRecDepth 100000 in
set_option maxHeartbeats 4000000 in
theorem c_X1_readRider (l : Launch) (D : zD) (A : Nat → Prop) (b : Nat) (g : zG) (L : Nat → Nat) (hs : zSt g) (hd : zWh g 17 L)  (u : zU) {u' : zU} (h : f_X1_readRider L u = some u') : z_M l D A b g yX1_readRider cX1_readRider 5 none 6 130 [.ref (b + 28)] u none u' := by
  refine z_enter (by decide) (Nat.le_of_ble_eq_true rfl) ?_
  intro p e s m below meth c ls C0 hr hml hlk hW hS hl
  have hl : lv_has ls 5 [(0, .ref (b + 28))] := hl
  have hx := C0.1
  have hb := C0.2.1
  rw [f_X1_readRider_e] at h
  refine lv_aload_n hx hb dX1_readRider_0 rfl (lv_at hl 0 rfl) ?_
  refine z_getr (o := 3) C0 hW fl_X1_21 (zk1 (hs 28 (by decide))) rfl (zk3 (hs 28 (by decide)) 0) dX1_readRider_1 ?_
  refine z_ldcS (k := 25) (tx := "weight") C0 (List.mem_of_getElem? (i := 25) rfl) dX1_readRider_4 ?_
  replace h := z_bd h
  obtain ⟨u1, hq, h⟩ := h
  refine z_cvv (As := [.ref (sA D 25)]) C0 hml hl.1 hW hS (c_X8_must l D A b g hs 25 (by decide) u hq) mv_X1_72 (zk1 (hs 3 (by decide))) ⟨Nat.le_of_ble_eq_true rfl, Nat.le_of_ble_eq_true rfl⟩ rfl rfl (Nat.le_of_ble_eq_true rfl) dX1_readRider_6 (fun H locs hW hS => ?_)
  clear hq
  refine lv_aload_n hx hb dX1_readRider_9 rfl (lv_at hl 0 rfl) ?_
  refine z_getr (o := 3) C0 hW fl_X1_21 (zk1 (hs 28 (by decide))) rfl (zk3 (hs 28 (by decide)) 0) dX1_readRider_10 ?_
  refine lv_iconst (v := (1 : Int32)) hx hb dX1_readRider_13 (by decide) ?_
  refine lv_bipush (v := (9 : Int32)) hx hb dX1_readRider_14 (by decide) ?_
  replace h := z_bd2 h
  obtain ⟨r2, u3, hq, h⟩ := h
  refine z_cvi (As := [.int (1 : Int32), .int (9 : Int32)]) C0 hml hl.1 hW hS (c_X8_number l D A b g hs (1 : Int32) (9 : Int32) u1 hq) mv_X1_39 (zk1 (hs 3 (by decide))) ⟨Nat.le_of_ble_eq_true rfl, Nat.le_of_ble_eq_true rfl⟩ rfl rfl (Nat.le_of_ble_eq_true rfl) dX1_readRider_16 (fun H locs hW hS => ?_)
  clear hq
  refine lv_istore_n (lv' := [(1, .int r2), (0, .ref (b + 28))]) hx hb dX1_readRider_19 rfl hl (by decide) rfl (fun ls hl => ?_)
  refine lv_aload_n hx hb dX1_readRider_20 rfl (lv_at hl 1 rfl) ?_
  refine z_getr (o := 3) C0 hW fl_X1_21 (zk1 (hs 28 (by decide))) rfl (zk3 (hs 28 (by decide)) 0) dX1_readRider_21 ?_
  refine z_ldcS (k := 26) (tx := "purse") C0 (List.mem_of_getElem? (i := 26) rfl) dX1_readRider_24 ?_
  replace h := z_bd h
  obtain ⟨u4, hq, h⟩ := h
  refine z_cvv (As := [.ref (sA D 26)]) C0 hml hl.1 hW hS (c_X8_must l D A b g hs 26 (by decide) u3 hq) mv_X1_72 (zk1 (hs 3 (by decide))) ⟨Nat.le_of_ble_eq_true rfl, Nat.le_of_ble_eq_true rfl⟩ rfl rfl (Nat.le_of_ble_eq_true rfl) dX1_readRider_26 (fun H locs hW hS => ?_)
  clear hq
  refine lv_aload_n hx hb dX1_readRider_29 rfl (lv_at hl 1 rfl) ?_
  refine z_getr (o := 3) C0 hW fl_X1_21 (zk1 (hs 28 (by decide))) rfl (zk3 (hs 28 (by decide)) 0) dX1_readRider_30 ?_
  refine lv_iconst (v := (0 : Int32)) hx hb dX1_readRider_33 (by decide) ?_
  refine lv_sipush (v := (999 : Int32)) hx hb dX1_readRider_34 (by decide) ?_
  replace h := z_bd2 h
  obtain ⟨r5, u6, hq, h⟩ := h
  refine z_cvi (As := [.int (0 : Int32), .int (999 : Int32)]) C0 hml hl.1 hW hS (c_X8_number l D A b g hs (0 : Int32) (999 : Int32) u4 hq) mv_X1_39 (zk1 (hs 3 (by decide))) ⟨Nat.le_of_ble_eq_true rfl, Nat.le_of_ble_eq_true rfl⟩ rfl rfl (Nat.le_of_ble_eq_true rfl) dX1_readRider_37 (fun H locs hW hS => ?_)
  clear hq
  refine lv_istore_n (lv' := [(2, .int r5), (1, .int r2), (0, .ref (b + 28))]) hx hb dX1_readRider_40 rfl hl (by decide) rfl (fun ls hl => ?_)
  refine lv_aload_n hx hb dX1_readRider_41 rfl (lv_at hl 2 rfl) ?_
  refine z_getr (o := 3) C0 hW fl_X1_21 (zk1 (hs 28 (by decide))) rfl (zk3 (hs 28 (by decide)) 0) dX1_readRider_42 ?_
  refine z_ldcS (k := 27) (tx := "party") C0 (List.mem_of_getElem? (i := 27) rfl) dX1_readRider_45 ?_
  replace h := z_bd h
  obtain ⟨u7, hq, h⟩ := h
  refine z_cvv (As := [.ref (sA D 27)]) C0 hml hl.1 hW hS (c_X8_must l D A b g hs 27 (by decide) u6 hq) mv_X1_72 (zk1 (hs 3 (by decide))) ⟨Nat.le_of_ble_eq_true rfl, Nat.le_of_ble_eq_true rfl⟩ rfl rfl (Nat.le_of_ble_eq_true rfl) dX1_readRider_47 (fun H locs hW hS => ?_)
  clear hq
  refine lv_aload_n hx hb dX1_readRider_50 rfl (lv_at hl 2 rfl) ?_
  refine z_getr (o := 3) C0 hW fl_X1_21 (zk1 (hs 28 (by decide))) rfl (zk3 (hs 28 (by decide)) 0) dX1_readRider_51 ?_
  refine lv_iconst (v := (0 : Int32)) hx hb dX1_readRider_54 (by decide) ?_
  refine lv_iconst (v := (3 : Int32)) hx hb dX1_readRider_55 (by decide) ?_
  replace h := z_bd2 h
  obtain ⟨r8, u9, hq, h⟩ := h
  refine z_cvi (As := [.int (0 : Int32), .int (3 : Int32)]) C0 hml hl.1 hW hS (c_X8_number l D A b g hs (0 : Int32) (3 : Int32) u7 hq) mv_X1_39 (zk1 (hs 3 (by decide))) ⟨Nat.le_of_ble_eq_true rfl, Nat.le_of_ble_eq_true rfl⟩ rfl rfl (Nat.le_of_ble_eq_true rfl) dX1_readRider_56 (fun H locs hW hS => ?_)
  clear hq
  refine lv_istore_n (lv' := [(3, .int r8), (2, .int r5), (1, .int r2), (0, .ref (b + 28))]) hx hb dX1_readRider_59 rfl hl (by decide) rfl (fun ls hl => ?_)
  refine lv_aload_n hx hb dX1_readRider_60 rfl (lv_at hl 3 rfl) ?_
  refine z_getr (o := 3) C0 hW fl_X1_21 (zk1 (hs 28 (by decide))) rfl (zk3 (hs 28 (by decide)) 0) dX1_readRider_61 ?_
  refine z_ldcS (k := 28) (tx := "in") C0 (List.mem_of_getElem? (i := 28) rfl) dX1_readRider_64 ?_
  replace h := z_bd2 h
  obtain ⟨t10, u11, hq, h⟩ := h
  refine z_cvi (As := [.ref (sA D 28)]) C0 hml hl.1 hW hS (c_X8_takes l D A b g hs 28 (by decide) u9 hq) mv_X1_27 (zk1 (hs 3 (by decide))) ⟨Nat.le_of_ble_eq_true rfl, Nat.le_of_ble_eq_true rfl⟩ rfl rfl (Nat.le_of_ble_eq_true rfl) dX1_readRider_66 (fun H locs hW hS => ?_)
  clear hq
  refine z_ifeqZ C0 (tgt := 79) dX1_readRider_69 (by decide) (fun hc => ?_) (fun hc => ?_)
  · replace h := z_ff h hc
    clear hc
    refine lv_iconst (v := (-1 : Int32)) hx hb dX1_readRider_79 (by decide) ?_
    refine lv_istore (lv' := [(4, .int (-1 : Int32)), (3, .int r8), (2, .int r5), (1, .int r2), (0, .ref (b + 28))]) hx hb dX1_readRider_80 hl (by decide) rfl (fun ls hl => ?_)
    refine lv_aload_n hx hb dX1_readRider_82 rfl (lv_at hl 4 rfl) ?_
    refine z_getr (o := 3) C0 hW fl_X1_21 (zk1 (hs 28 (by decide))) rfl (zk3 (hs 28 (by decide)) 0) dX1_readRider_83 ?_
    refine z_geti C0 hW fl_X1_86 (zk1 (hs 3 (by decide))) rfl dX1_readRider_86 ?_
    refine lv_iconst (v := (-1 : Int32)) hx hb dX1_readRider_89 (by decide) ?_
    refine lv_icmp_ne (tgt := 105) hx hb dX1_readRider_90 (by decide) (fun hc => ?_) (fun hc => ?_)
    · replace h := z_f h hc
      clear hc
      cases h
      exact z_vret C0 hr hlk hW hS dX1_readRider_105
    · replace h := z_t h hc
      clear hc
      refine lv_aload_n hx hb dX1_readRider_93 rfl (lv_at hl 4 rfl) ?_
      refine z_getr (o := 17) C0 hW fl_X1_11 (zk1 (hs 28 (by decide))) rfl (zk3 (hs 28 (by decide)) 2) dX1_readRider_94 ?_
      refine lv_iload_n hx hb dX1_readRider_97 rfl (lv_at hl 3 rfl) ?_
      refine lv_iload_n hx hb dX1_readRider_98 rfl (lv_at hl 2 rfl) ?_
      refine lv_iload_n hx hb dX1_readRider_99 rfl (lv_at hl 1 rfl) ?_
      refine lv_iload hx hb dX1_readRider_100 (lv_at hl 0 rfl) ?_
      replace h := z_bd h
      obtain ⟨u12, hq, h⟩ := h
      refine z_cvv (As := [.int r2, .int r5, .int r8, .int (-1 : Int32)]) C0 hml hl.1 hW hS (c_X9_enlist l D A b g 17 L hd r2 r5 r8 (-1 : Int32) u11 hq) mv_X1_89 hd.1 ⟨Nat.le_of_ble_eq_true rfl, Nat.le_of_ble_eq_true rfl⟩ rfl rfl (Nat.le_of_ble_eq_true rfl) dX1_readRider_102 (fun H locs hW hS => ?_)
      clear hq
      cases h
      exact z_vret C0 hr hlk hW hS dX1_readRider_105
  · replace h := z_t h hc
    clear hc
    refine lv_aload_n hx hb dX1_readRider_72 rfl (lv_at hl 3 rfl) ?_
    replace h := z_bd2 h
    obtain ⟨r13, u14, hq, h⟩ := h
    refine z_cvi (As := []) C0 hml hl.1 hW hS (c_X1_readOpenCradle l D A b g L hs hd u11 hq) mv_X1_82 (zk1 (hs 28 (by decide))) ⟨Nat.le_of_ble_eq_true rfl, Nat.le_of_ble_eq_true rfl⟩ rfl rfl (Nat.le_of_ble_eq_true rfl) dX1_readRider_73 (fun H locs hW hS => ?_)
    clear hq
    refine lv_goto (tgt := 80) hx hb dX1_readRider_76 (by decide) ?_
    refine lv_istore (lv' := [(4, .int r13), (3, .int r8), (2, .int r5), (1, .int r2), (0, .ref (b + 28))]) hx hb dX1_readRider_80 hl (by decide) rfl (fun ls hl => ?_)
    refine lv_aload_n hx hb dX1_readRider_82 rfl (lv_at hl 4 rfl) ?_
    refine z_getr (o := 3) C0 hW fl_X1_21 (zk1 (hs 28 (by decide))) rfl (zk3 (hs 28 (by decide)) 0) dX1_readRider_83 ?_
    refine z_geti C0 hW fl_X1_86 (zk1 (hs 3 (by decide))) rfl dX1_readRider_86 ?_
    refine lv_iconst (v := (-1 : Int32)) hx hb dX1_readRider_89 (by decide) ?_
    refine lv_icmp_ne (tgt := 105) hx hb dX1_readRider_90 (by decide) (fun hc => ?_) (fun hc => ?_)
    · replace h := z_f h hc
      clear hc
      cases h
      exact z_vret C0 hr hlk hW hS dX1_readRider_105
    · replace h := z_t h hc
      clear hc
      refine lv_aload_n hx hb dX1_readRider_93 rfl (lv_at hl 4 rfl) ?_
      refine z_getr (o := 17) C0 hW fl_X1_11 (zk1 (hs 28 (by decide))) rfl (zk3 (hs 28 (by decide)) 2) dX1_readRider_94 ?_
      refine lv_iload_n hx hb dX1_readRider_97 rfl (lv_at hl 3 rfl) ?_
      refine lv_iload_n hx hb dX1_readRider_98 rfl (lv_at hl 2 rfl) ?_
      refine lv_iload_n hx hb dX1_readRider_99 rfl (lv_at hl 1 rfl) ?_
      refine lv_iload hx hb dX1_readRider_100 (lv_at hl 0 rfl) ?_
      replace h := z_bd h
      obtain ⟨u15, hq, h⟩ := h
      refine z_cvv (As := [.int r2, .int r5, .int r8, .int r13]) C0 hml hl.1 hW hS (c_X9_enlist l D A b g 17 L hd r2 r5 r8 r13 u14 hq) mv_X1_89 hd.1 ⟨Nat.le_of_ble_eq_true rfl, Nat.le_of_ble_eq_true rfl⟩ rfl rfl (Nat.le_of_ble_eq_true rfl) dX1_readRider_102 (fun H locs hW hS => ?_)
      clear hq
      cases h
      exact z_vret C0 hr hlk hW hS dX1_readRider_105
def f_X4_total_9 (L : Nat → Nat) (fa : Nat) : Nat → Int32 → Bool → Int32 → Int32 → Int32 → zU → Option (Int32 × zU)
  | 0, _, _, _, _, _, _ => none
  | n + 1, x1, x3, x4, x5, x6, u =>
    if (nI (L 8)) ≤ x6 then (some (x4, u)) else (if z_in x6 (L 8) = true then (z_let (u (L 3) (x6).toNatClampNeg) (fun z1 => if z1 = x5 then (if z_in x6 (L 8) = true then (z_let (u (L 1) (x6).toNatClampNeg) (fun z12 => if z12 = x1 then (if z_in x6 (L 8) = true then (z_let (u (L 2) (x6).toNatClampNeg) (fun z14 => z_let (x4 + z14) (fun z15 => if z_in x6 (L 8) = true then (z_let (u (L 3) (x6).toNatClampNeg) (fun z16 => f_X4_total_9 L fa n x1 x3 z15 z16 (x6 + (1 : Int32)) u)) else none))) else none) else (if z_in x6 (L 8) = true then (z_let (u (L 3) (x6).toNatClampNeg) (fun z13 => f_X4_total_9 L fa n x1 x3 x4 z13 (x6 + (1 : Int32)) u)) else none))) else none) else (if z_in x6 (L 8) = true then (z_let (u (L 1) (x6).toNatClampNeg) (fun z2 => if z2 = x1 then (if x3 = true then (if z_in x6 (L 8) = true then (z_let (u (L 3) (x6).toNatClampNeg) (fun z5 => z_b2 (f_X4_holds L fa x5 z5 u) (fun t6 u7 => if t6 = true then (if z_in x6 (L 8) = true then (z_let (u7 (L 2) (x6).toNatClampNeg) (fun z9 => z_let (x4 + z9) (fun z10 => if z_in x6 (L 8) = true then (z_let (u7 (L 3) (x6).toNatClampNeg) (fun z11 => f_X4_total_9 L fa n x1 x3 z10 z11 (x6 + (1 : Int32)) u7)) else none))) else none) else (if z_in x6 (L 8) = true then (z_let (u7 (L 3) (x6).toNatClampNeg) (fun z8 => f_X4_total_9 L fa n x1 x3 x4 z8 (x6 + (1 : Int32)) u7)) else none)))) else none) else (if z_in x6 (L 8) = true then (z_let (u (L 3) (x6).toNatClampNeg) (fun z4 => f_X4_total_9 L fa n x1 x3 x4 z4 (x6 + (1 : Int32)) u)) else none)) else (if z_in x6 (L 8) = true then (z_let (u (L 3) (x6).toNatClampNeg) (fun z3 => f_X4_total_9 L fa n x1 x3 x4 z3 (x6 + (1 : Int32)) u)) else none))) else none))) else none)
theorem f_X4_total_9_s (L : Nat → Nat) (fa : Nat) (n : Nat) (x1 : Int32) (x3 : Bool) (x4 : Int32) (x5 : Int32) (x6 : Int32) (u : zU) : f_X4_total_9 L fa (n + 1) x1 x3 x4 x5 x6 u = if (nI (L 8)) ≤ x6 then (some (x4, u)) else (if z_in x6 (L 8) = true then (z_let (u (L 3) (x6).toNatClampNeg) (fun z1 => if z1 = x5 then (if z_in x6 (L 8) = true then (z_let (u (L 1) (x6).toNatClampNeg) (fun z12 => if z12 = x1 then (if z_in x6 (L 8) = true then (z_let (u (L 2) (x6).toNatClampNeg) (fun z14 => z_let (x4 + z14) (fun z15 => if z_in x6 (L 8) = true then (z_let (u (L 3) (x6).toNatClampNeg) (fun z16 => f_X4_total_9 L fa n x1 x3 z15 z16 (x6 + (1 : Int32)) u)) else none))) else none) else (if z_in x6 (L 8) = true then (z_let (u (L 3) (x6).toNatClampNeg) (fun z13 => f_X4_total_9 L fa n x1 x3 x4 z13 (x6 + (1 : Int32)) u)) else none))) else none) else (if z_in x6 (L 8) = true then (z_let (u (L 1) (x6).toNatClampNeg) (fun z2 => if z2 = x1 then (if x3 = true then (if z_in x6 (L 8) = true then (z_let (u (L 3) (x6).toNatClampNeg) (fun z5 => z_b2 (f_X4_holds L fa x5 z5 u) (fun t6 u7 => if t6 = true then (if z_in x6 (L 8) = true then (z_let (u7 (L 2) (x6).toNatClampNeg) (fun z9 => z_let (x4 + z9) (fun z10 => if z_in x6 (L 8) = true then (z_let (u7 (L 3) (x6).toNatClampNeg) (fun z11 => f_X4_total_9 L fa n x1 x3 z10 z11 (x6 + (1 : Int32)) u7)) else none))) else none) else (if z_in x6 (L 8) = true then (z_let (u7 (L 3) (x6).toNatClampNeg) (fun z8 => f_X4_total_9 L fa n x1 x3 x4 z8 (x6 + (1 : Int32)) u7)) else none)))) else none) else (if z_in x6 (L 8) = true then (z_let (u (L 3) (x6).toNatClampNeg) (fun z4 => f_X4_total_9 L fa n x1 x3 x4 z4 (x6 + (1 : Int32)) u)) else none)) else (if z_in x6 (L 8) = true then (z_let (u (L 3) (x6).toNatClampNeg) (fun z3 => f_X4_total_9 L fa n x1 x3 x4 z3 (x6 + (1 : Int32)) u)) else none))) else none))) else none) := rfl
def f_X4_total (L : Nat → Nat) (fa : Nat) (a1 : Int32) (a3 : Bool) (u : zU) : Option (Int32 × zU) :=
  f_X4_total_9 L fa 5000 a1 a3 (0 : Int32) (0 : Int32) (0 : Int32) u
set_option maxRecDepth 100000 in
set_option maxHeartbeats 4000000 in
theorem l_X4_total_9 {l : Launch} {D : zD} {A : Nat → Prop} {b : Nat} {p : Program} {e : Env} {s : State} {m : MethodId} {args : Array Value} {below : List Frame} {meth : Method} {c : Code} {g : zG} {L : Nat → Nat} {fa : Nat} {v : Int32} {u' : zU} (C0 : z_C p c cX4_total s m args yX4_total.cls D A) (hr : meth.sig.returnType = (some .int)) (hml : c.maxLocals = 8) (hlk : meth.locks = false) (hL : zLw g L) (hfa : (g fa).1 = 1 ∧ (g fa).2.1 = 9) : ∀ (n : Nat) (x1 : Int32) (x3 : Bool) (x4 : Int32) (x5 : Int32) (x6 : Int32) (u : zU) (H : Heap) (locs : List Loc) (ls : Array Slot), f_X4_total_9 L fa n x1 x3 x4 x5 x6 u = some (v, u') → z_W D A b g u H → va_S A s.heap H locs → lv_has ls 8 [(0, .ref (b + (L 0))), (1, .int x1), (2, .ref (b + fa)), (3, .int (bI x3)), (4, .int x4), (5, .int x5), (6, .int x6)] → W p l e { frames := 2, cells := 0, slots := 0, locals := 51 } s m args below meth c H locs 0 0 (z_End D A b g below args s (some (.int v)) u') (F0 m 9 ls []) := by
  have hx := C0.1
  have hb := C0.2.1
  intro n
  induction n with
  | zero => intro x1 x3 x4 x5 x6 u H locs ls h hW hS hl; cases h
  | succ n ih =>
    intro x1 x3 x4 x5 x6 u H locs ls h hW hS hl
    rw [f_X4_total_9_s] at h
    refine lv_iload hx hb dX4_total_9 (lv_at hl 6 rfl) ?_
    refine lv_aload_n hx hb dX4_total_11 rfl (lv_at hl 0 rfl) ?_
    refine z_getr (o := L 1) C0 hW fl_X4_15 hL.1 rfl (hL.2 1 (by decide) (by decide)).1 dX4_total_12 ?_
    refine z_alen (n := (L 8)) (v := nI (L 8)) C0 hW (hL.2 1 (by decide) (by decide)).2.1 (hL.2 1 (by decide) (by decide)).2.2 rfl dX4_total_15 ?_
    refine lv_icmp_ge (tgt := 102) hx hb dX4_total_16 (by decide) (fun hc => ?_) (fun hc => ?_)
    · replace h := z_t h hc
      clear hc
      refine lv_iload hx hb dX4_total_102 (lv_at hl 4 rfl) ?_
      cases h
      exact z_iret C0 hr hlk hW hS dX4_total_104
    · replace h := z_f h hc
      clear hc
      refine lv_aload_n hx hb dX4_total_19 rfl (lv_at hl 0 rfl) ?_
      refine z_getr (o := L 3) C0 hW fl_X4_22 hL.1 rfl (hL.2 3 (by decide) (by decide)).1 dX4_total_20 ?_
      refine lv_iload hx hb dX4_total_23 (lv_at hl 6 rfl) ?_
      replace h := z_if h
      obtain ⟨hin, h⟩ := h
      refine z_iald (n := (L 8)) C0 hW (hL.2 3 (by decide) (by decide)).2.1 (hL.2 3 (by decide) (by decide)).2.2 hin rfl dX4_total_25 ?_
      clear hin
      refine lv_topi (fun z1 e1 => ?_)
      replace h := z_ly h e1
      clear e1
      refine lv_iload hx hb dX4_total_26 (lv_at hl 5 rfl) ?_
      refine lv_icmp_ne (tgt := 35) hx hb dX4_total_28 (by decide) (fun hc => ?_) (fun hc => ?_)
      · replace h := z_f h hc
        clear hc
        refine lv_iconst (v := (0 : Int32)) hx hb dX4_total_35 (by decide) ?_
        refine lv_istore (lv' := [(7, .int (0 : Int32)), (0, .ref (b + (L 0))), (1, .int x1), (2, .ref (b + fa)), (3, .int (bI x3)), (4, .int x4), (5, .int x5), (6, .int x6)]) hx hb dX4_total_36 hl (by decide) rfl (fun ls hl => ?_)
        refine lv_aload_n hx hb dX4_total_38 rfl (lv_at hl 1 rfl) ?_
        refine z_getr (o := L 1) C0 hW fl_X4_15 hL.1 rfl (hL.2 1 (by decide) (by decide)).1 dX4_total_39 ?_
        refine lv_iload hx hb dX4_total_42 (lv_at hl 7 rfl) ?_
        replace h := z_if h
        obtain ⟨hin, h⟩ := h
        refine z_iald (n := (L 8)) C0 hW (hL.2 1 (by decide) (by decide)).2.1 (hL.2 1 (by decide) (by decide)).2.2 hin rfl dX4_total_44 ?_
        clear hin
        refine lv_topi (fun z2 e1 => ?_)
        replace h := z_ly h e1
        clear e1
        refine lv_iload_n hx hb dX4_total_45 rfl (lv_at hl 2 rfl) ?_
        refine lv_icmp_ne (tgt := 87) hx hb dX4_total_46 (by decide) (fun hc => ?_) (fun hc => ?_)
        · replace h := z_f h hc
          clear hc
          refine lv_aload_n hx hb dX4_total_87 rfl (lv_at hl 1 rfl) ?_
          refine z_getr (o := L 3) C0 hW fl_X4_22 hL.1 rfl (hL.2 3 (by decide) (by decide)).1 dX4_total_88 ?_
          refine lv_iload hx hb dX4_total_91 (lv_at hl 7 rfl) ?_
          replace h := z_if h
          obtain ⟨hin, h⟩ := h
          refine z_iald (n := (L 8)) C0 hW (hL.2 3 (by decide) (by decide)).2.1 (hL.2 3 (by decide) (by decide)).2.2 hin rfl dX4_total_93 ?_
          clear hin
          refine lv_topi (fun z3 e1 => ?_)
          replace h := z_ly h e1
          clear e1
          refine lv_istore (lv' := [(5, .int z3), (7, .int (0 : Int32)), (0, .ref (b + (L 0))), (1, .int x1), (2, .ref (b + fa)), (3, .int (bI x3)), (4, .int x4), (6, .int x6)]) hx hb dX4_total_94 hl (by decide) rfl (fun ls hl => ?_)
          refine lv_iinc (v := x6 + (1 : Int32)) (lv' := [(6, .int (x6 + (1 : Int32))), (5, .int z3), (7, .int (0 : Int32)), (0, .ref (b + (L 0))), (1, .int x1), (2, .ref (b + fa)), (3, .int (bI x3)), (4, .int x4)]) hx hb dX4_total_96 hl (k := 7) rfl rfl (by decide) rfl (fun ls hl => ?_)
          refine lv_goto (tgt := 9) hx hb dX4_total_99 (by decide) ?_
          exact ih _ _ _ _ _ _ _ _ _ h hW hS (lv_sub hl [3, 4, 5, 6, 7, 1, 0] rfl)
        · replace h := z_t h hc
          clear hc
          refine lv_iload hx hb dX4_total_49 (lv_at hl 0 rfl) ?_
          refine lv_if_ne (tgt := 75) hx hb dX4_total_51 (by decide) (fun hc => ?_) (fun hc => ?_)
          · exact absurd hc (by decide)
          · clear hc
            refine lv_iload_n hx hb dX4_total_54 rfl (lv_at hl 4 rfl) ?_
            refine z_ifeqZ C0 (tgt := 87) dX4_total_55 (by decide) (fun hc => ?_) (fun hc => ?_)
            · replace h := z_ff h hc
              clear hc
              refine lv_aload_n hx hb dX4_total_87 rfl (lv_at hl 1 rfl) ?_
              refine z_getr (o := L 3) C0 hW fl_X4_22 hL.1 rfl (hL.2 3 (by decide) (by decide)).1 dX4_total_88 ?_
              refine lv_iload hx hb dX4_total_91 (lv_at hl 7 rfl) ?_
              replace h := z_if h
              obtain ⟨hin, h⟩ := h
              refine z_iald (n := (L 8)) C0 hW (hL.2 3 (by decide) (by decide)).2.1 (hL.2 3 (by decide) (by decide)).2.2 hin rfl dX4_total_93 ?_
              clear hin
              refine lv_topi (fun z4 e1 => ?_)
              replace h := z_ly h e1
              clear e1
              refine lv_istore (lv' := [(5, .int z4), (7, .int (0 : Int32)), (0, .ref (b + (L 0))), (1, .int x1), (2, .ref (b + fa)), (3, .int (bI x3)), (4, .int x4), (6, .int x6)]) hx hb dX4_total_94 hl (by decide) rfl (fun ls hl => ?_)
              refine lv_iinc (v := x6 + (1 : Int32)) (lv' := [(6, .int (x6 + (1 : Int32))), (5, .int z4), (7, .int (0 : Int32)), (0, .ref (b + (L 0))), (1, .int x1), (2, .ref (b + fa)), (3, .int (bI x3)), (4, .int x4)]) hx hb dX4_total_96 hl (k := 7) rfl rfl (by decide) rfl (fun ls hl => ?_)
              refine lv_goto (tgt := 9) hx hb dX4_total_99 (by decide) ?_
              exact ih _ _ _ _ _ _ _ _ _ h hW hS (lv_sub hl [3, 4, 5, 6, 7, 1, 0] rfl)
            · replace h := z_t h hc
              clear hc
              refine lv_aload_n hx hb dX4_total_58 rfl (lv_at hl 1 rfl) ?_
              refine lv_iload hx hb dX4_total_59 (lv_at hl 6 rfl) ?_
              refine lv_aload_n hx hb dX4_total_61 rfl (lv_at hl 1 rfl) ?_
              refine z_getr (o := L 3) C0 hW fl_X4_22 hL.1 rfl (hL.2 3 (by decide) (by decide)).1 dX4_total_62 ?_
              refine lv_iload hx hb dX4_total_65 (lv_at hl 7 rfl) ?_
              replace h := z_if h
              obtain ⟨hin, h⟩ := h
              refine z_iald (n := (L 8)) C0 hW (hL.2 3 (by decide) (by decide)).2.1 (hL.2 3 (by decide) (by decide)).2.2 hin rfl dX4_total_67 ?_
              clear hin
              refine lv_topi (fun z5 e1 => ?_)
              replace h := z_ly h e1
              clear e1
              refine lv_aload_n hx hb dX4_total_68 rfl (lv_at hl 3 rfl) ?_
              replace h := z_bd2 h
              obtain ⟨t6, u7, hq, h⟩ := h
              refine z_cvi (As := [.int x5, .int z5, .ref (b + fa)]) C0 hml hl.1 hW hS (c_X4_holds l D A b g L fa hL ⟨hfa.1, hfa.2⟩ x5 z5 u hq) mv_X4_55 hL.1 ⟨Nat.le_of_ble_eq_true rfl, Nat.le_of_ble_eq_true rfl⟩ rfl rfl (Nat.le_of_ble_eq_true rfl) dX4_total_69 (fun H locs hW hS => ?_)
              clear hq
              refine z_ifeqZ C0 (tgt := 87) dX4_total_72 (by decide) (fun hc => ?_) (fun hc => ?_)
              · replace h := z_ff h hc
                clear hc
                refine lv_aload_n hx hb dX4_total_87 rfl (lv_at hl 1 rfl) ?_
                refine z_getr (o := L 3) C0 hW fl_X4_22 hL.1 rfl (hL.2 3 (by decide) (by decide)).1 dX4_total_88 ?_
                refine lv_iload hx hb dX4_total_91 (lv_at hl 7 rfl) ?_
                replace h := z_if h
                obtain ⟨hin, h⟩ := h
                refine z_iald (n := (L 8)) C0 hW (hL.2 3 (by decide) (by decide)).2.1 (hL.2 3 (by decide) (by decide)).2.2 hin rfl dX4_total_93 ?_
                clear hin
                refine lv_topi (fun z8 e1 => ?_)
                replace h := z_ly h e1
                clear e1
                refine lv_istore (lv' := [(5, .int z8), (7, .int (0 : Int32)), (0, .ref (b + (L 0))), (1, .int x1), (2, .ref (b + fa)), (3, .int (bI x3)), (4, .int x4), (6, .int x6)]) hx hb dX4_total_94 hl (by decide) rfl (fun ls hl => ?_)
                refine lv_iinc (v := x6 + (1 : Int32)) (lv' := [(6, .int (x6 + (1 : Int32))), (5, .int z8), (7, .int (0 : Int32)), (0, .ref (b + (L 0))), (1, .int x1), (2, .ref (b + fa)), (3, .int (bI x3)), (4, .int x4)]) hx hb dX4_total_96 hl (k := 7) rfl rfl (by decide) rfl (fun ls hl => ?_)
                refine lv_goto (tgt := 9) hx hb dX4_total_99 (by decide) ?_
                exact ih _ _ _ _ _ _ _ _ _ h hW hS (lv_sub hl [3, 4, 5, 6, 7, 1, 0] rfl)
              · replace h := z_t h hc
                clear hc
                refine lv_iload hx hb dX4_total_75 (lv_at hl 5 rfl) ?_
                refine lv_aload_n hx hb dX4_total_77 rfl (lv_at hl 1 rfl) ?_
                refine z_getr (o := L 2) C0 hW fl_X4_19 hL.1 rfl (hL.2 2 (by decide) (by decide)).1 dX4_total_78 ?_
                refine lv_iload hx hb dX4_total_81 (lv_at hl 7 rfl) ?_
                replace h := z_if h
                obtain ⟨hin, h⟩ := h
                refine z_iald (n := (L 8)) C0 hW (hL.2 2 (by decide) (by decide)).2.1 (hL.2 2 (by decide) (by decide)).2.2 hin rfl dX4_total_83 ?_
                clear hin
                refine lv_topi (fun z9 e1 => ?_)
                replace h := z_ly h e1
                clear e1
                refine lv_iadd hx hb dX4_total_84 ?_
                refine lv_topi (fun z10 e1 => ?_)
                replace h := z_ly h e1
                clear e1
                refine lv_istore (lv' := [(4, .int z10), (7, .int (0 : Int32)), (0, .ref (b + (L 0))), (1, .int x1), (2, .ref (b + fa)), (3, .int (bI x3)), (5, .int x5), (6, .int x6)]) hx hb dX4_total_85 hl (by decide) rfl (fun ls hl => ?_)
                refine lv_aload_n hx hb dX4_total_87 rfl (lv_at hl 2 rfl) ?_
                refine z_getr (o := L 3) C0 hW fl_X4_22 hL.1 rfl (hL.2 3 (by decide) (by decide)).1 dX4_total_88 ?_
                refine lv_iload hx hb dX4_total_91 (lv_at hl 7 rfl) ?_
                replace h := z_if h
                obtain ⟨hin, h⟩ := h
                refine z_iald (n := (L 8)) C0 hW (hL.2 3 (by decide) (by decide)).2.1 (hL.2 3 (by decide) (by decide)).2.2 hin rfl dX4_total_93 ?_
                clear hin
                refine lv_topi (fun z11 e1 => ?_)
                replace h := z_ly h e1
                clear e1
                refine lv_istore (lv' := [(5, .int z11), (4, .int z10), (7, .int (0 : Int32)), (0, .ref (b + (L 0))), (1, .int x1), (2, .ref (b + fa)), (3, .int (bI x3)), (6, .int x6)]) hx hb dX4_total_94 hl (by decide) rfl (fun ls hl => ?_)
                refine lv_iinc (v := x6 + (1 : Int32)) (lv' := [(6, .int (x6 + (1 : Int32))), (5, .int z11), (4, .int z10), (7, .int (0 : Int32)), (0, .ref (b + (L 0))), (1, .int x1), (2, .ref (b + fa)), (3, .int (bI x3))]) hx hb dX4_total_96 hl (k := 7) rfl rfl (by decide) rfl (fun ls hl => ?_)
                refine lv_goto (tgt := 9) hx hb dX4_total_99 (by decide) ?_
                exact ih _ _ _ _ _ _ _ _ _ h hW hS (lv_sub hl [4, 5, 6, 7, 2, 1, 0] rfl)
      · replace h := z_t h hc
        clear hc
        refine lv_iconst (v := (1 : Int32)) hx hb dX4_total_31 (by decide) ?_
        refine lv_goto (tgt := 36) hx hb dX4_total_32 (by decide) ?_
        refine lv_istore (lv' := [(7, .int (1 : Int32)), (0, .ref (b + (L 0))), (1, .int x1), (2, .ref (b + fa)), (3, .int (bI x3)), (4, .int x4), (5, .int x5), (6, .int x6)]) hx hb dX4_total_36 hl (by decide) rfl (fun ls hl => ?_)
        refine lv_aload_n hx hb dX4_total_38 rfl (lv_at hl 1 rfl) ?_
        refine z_getr (o := L 1) C0 hW fl_X4_15 hL.1 rfl (hL.2 1 (by decide) (by decide)).1 dX4_total_39 ?_
        refine lv_iload hx hb dX4_total_42 (lv_at hl 7 rfl) ?_
        replace h := z_if h
        obtain ⟨hin, h⟩ := h
        refine z_iald (n := (L 8)) C0 hW (hL.2 1 (by decide) (by decide)).2.1 (hL.2 1 (by decide) (by decide)).2.2 hin rfl dX4_total_44 ?_
        clear hin
        refine lv_topi (fun z12 e1 => ?_)
        replace h := z_ly h e1
        clear e1
        refine lv_iload_n hx hb dX4_total_45 rfl (lv_at hl 2 rfl) ?_
        refine lv_icmp_ne (tgt := 87) hx hb dX4_total_46 (by decide) (fun hc => ?_) (fun hc => ?_)
        · replace h := z_f h hc
          clear hc
          refine lv_aload_n hx hb dX4_total_87 rfl (lv_at hl 1 rfl) ?_
          refine z_getr (o := L 3) C0 hW fl_X4_22 hL.1 rfl (hL.2 3 (by decide) (by decide)).1 dX4_total_88 ?_
          refine lv_iload hx hb dX4_total_91 (lv_at hl 7 rfl) ?_
          replace h := z_if h
          obtain ⟨hin, h⟩ := h
          refine z_iald (n := (L 8)) C0 hW (hL.2 3 (by decide) (by decide)).2.1 (hL.2 3 (by decide) (by decide)).2.2 hin rfl dX4_total_93 ?_
          clear hin
          refine lv_topi (fun z13 e1 => ?_)
          replace h := z_ly h e1
          clear e1
          refine lv_istore (lv' := [(5, .int z13), (7, .int (1 : Int32)), (0, .ref (b + (L 0))), (1, .int x1), (2, .ref (b + fa)), (3, .int (bI x3)), (4, .int x4), (6, .int x6)]) hx hb dX4_total_94 hl (by decide) rfl (fun ls hl => ?_)
          refine lv_iinc (v := x6 + (1 : Int32)) (lv' := [(6, .int (x6 + (1 : Int32))), (5, .int z13), (7, .int (1 : Int32)), (0, .ref (b + (L 0))), (1, .int x1), (2, .ref (b + fa)), (3, .int (bI x3)), (4, .int x4)]) hx hb dX4_total_96 hl (k := 7) rfl rfl (by decide) rfl (fun ls hl => ?_)
          refine lv_goto (tgt := 9) hx hb dX4_total_99 (by decide) ?_
          exact ih _ _ _ _ _ _ _ _ _ h hW hS (lv_sub hl [3, 4, 5, 6, 7, 1, 0] rfl)
        · replace h := z_t h hc
          clear hc
          refine lv_iload hx hb dX4_total_49 (lv_at hl 0 rfl) ?_
          refine lv_if_ne (tgt := 75) hx hb dX4_total_51 (by decide) (fun hc => ?_) (fun hc => ?_)
          · clear hc
            refine lv_iload hx hb dX4_total_75 (lv_at hl 5 rfl) ?_
            refine lv_aload_n hx hb dX4_total_77 rfl (lv_at hl 1 rfl) ?_
            refine z_getr (o := L 2) C0 hW fl_X4_19 hL.1 rfl (hL.2 2 (by decide) (by decide)).1 dX4_total_78 ?_
            refine lv_iload hx hb dX4_total_81 (lv_at hl 7 rfl) ?_
            replace h := z_if h
            obtain ⟨hin, h⟩ := h
            refine z_iald (n := (L 8)) C0 hW (hL.2 2 (by decide) (by decide)).2.1 (hL.2 2 (by decide) (by decide)).2.2 hin rfl dX4_total_83 ?_
            clear hin
            refine lv_topi (fun z14 e1 => ?_)
            replace h := z_ly h e1
            clear e1
            refine lv_iadd hx hb dX4_total_84 ?_
            refine lv_topi (fun z15 e1 => ?_)
            replace h := z_ly h e1
            clear e1
            refine lv_istore (lv' := [(4, .int z15), (7, .int (1 : Int32)), (0, .ref (b + (L 0))), (1, .int x1), (2, .ref (b + fa)), (3, .int (bI x3)), (5, .int x5), (6, .int x6)]) hx hb dX4_total_85 hl (by decide) rfl (fun ls hl => ?_)
            refine lv_aload_n hx hb dX4_total_87 rfl (lv_at hl 2 rfl) ?_
            refine z_getr (o := L 3) C0 hW fl_X4_22 hL.1 rfl (hL.2 3 (by decide) (by decide)).1 dX4_total_88 ?_
            refine lv_iload hx hb dX4_total_91 (lv_at hl 7 rfl) ?_
            replace h := z_if h
            obtain ⟨hin, h⟩ := h
            refine z_iald (n := (L 8)) C0 hW (hL.2 3 (by decide) (by decide)).2.1 (hL.2 3 (by decide) (by decide)).2.2 hin rfl dX4_total_93 ?_
            clear hin
            refine lv_topi (fun z16 e1 => ?_)
            replace h := z_ly h e1
            clear e1
            refine lv_istore (lv' := [(5, .int z16), (4, .int z15), (7, .int (1 : Int32)), (0, .ref (b + (L 0))), (1, .int x1), (2, .ref (b + fa)), (3, .int (bI x3)), (6, .int x6)]) hx hb dX4_total_94 hl (by decide) rfl (fun ls hl => ?_)
            refine lv_iinc (v := x6 + (1 : Int32)) (lv' := [(6, .int (x6 + (1 : Int32))), (5, .int z16), (4, .int z15), (7, .int (1 : Int32)), (0, .ref (b + (L 0))), (1, .int x1), (2, .ref (b + fa)), (3, .int (bI x3))]) hx hb dX4_total_96 hl (k := 7) rfl rfl (by decide) rfl (fun ls hl => ?_)
            refine lv_goto (tgt := 9) hx hb dX4_total_99 (by decide) ?_
            exact ih _ _ _ _ _ _ _ _ _ h hW hS (lv_sub hl [4, 5, 6, 7, 2, 1, 0] rfl)
          · exact absurd hc (by decide)
theorem f_X4_total_e (L : Nat → Nat) (fa : Nat) (a1 : Int32) (a3 : Bool) (u : zU) : f_X4_total L fa a1 a3 u = f_X4_total_9 L fa 5000 a1 a3 (0 : Int32) (0 : Int32) (0 : Int32) u := rfl
set_option maxRecDepth 100000 in
set_option maxHeartbeats 4000000 in
theorem c_X4_total (l : Launch) (D : zD) (A : Nat → Prop) (b : Nat) (g : zG) (L : Nat → Nat) (fa : Nat) (hL : zLw g L) (hfa : (g fa).1 = 1 ∧ (g fa).2.1 = 9) (a1 : Int32) (a3 : Bool) (u : zU) {v : Int32} {u' : zU} (h : f_X4_total L fa a1 a3 u = some (v, u')) : z_M l D A b g yX4_total cX4_total 8 (some .int) 2 51 [.ref (b + (L 0)), .int a1, .ref (b + fa), .int (bI a3)] u (some (.int v)) u' := by
  refine z_enter (by decide) (Nat.le_of_ble_eq_true rfl) ?_
  intro p e s m below meth c ls C0 hr hml hlk hW hS hl
  have hl : lv_has ls 8 [(0, .ref (b + (L 0))), (1, .int a1), (2, .ref (b + fa)), (3, .int (bI a3))] := hl
  have hx := C0.1
  have hb := C0.2.1
  rw [f_X4_total_e] at h
  refine lv_iconst (v := (0 : Int32)) hx hb dX4_total_0 (by decide) ?_
  refine lv_istore (lv' := [(4, .int (0 : Int32)), (0, .ref (b + (L 0))), (1, .int a1), (2, .ref (b + fa)), (3, .int (bI a3))]) hx hb dX4_total_1 hl (by decide) rfl (fun ls hl => ?_)
  refine lv_iconst (v := (0 : Int32)) hx hb dX4_total_3 (by decide) ?_
  refine lv_istore (lv' := [(5, .int (0 : Int32)), (4, .int (0 : Int32)), (0, .ref (b + (L 0))), (1, .int a1), (2, .ref (b + fa)), (3, .int (bI a3))]) hx hb dX4_total_4 hl (by decide) rfl (fun ls hl => ?_)
  refine lv_iconst (v := (0 : Int32)) hx hb dX4_total_6 (by decide) ?_
  refine lv_istore (lv' := [(6, .int (0 : Int32)), (5, .int (0 : Int32)), (4, .int (0 : Int32)), (0, .ref (b + (L 0))), (1, .int a1), (2, .ref (b + fa)), (3, .int (bI a3))]) hx hb dX4_total_7 hl (by decide) rfl (fun ls hl => ?_)
  exact l_X4_total_9 C0 hr hml hlk hL hfa 5000 _ _ _ _ _ _ _ _ _ h hW hS (lv_sub hl [3, 4, 5, 6, 2, 1, 0] rfl)
def f_X9_goesFarther (w : Nat) (L : Nat → Nat)  (u : zU) : Option (Int32 × zU) :=
  (f_X9_firstIn w L (u w 14) u).bind (fun r1 => if r1 = (-1 : Int32) then (if r1 = (-1 : Int32) then (z_b2 (f_X4_total L (w + 8) (0 : Int32) false u) (fun r2 u3 => some (r2, u3))) else (z_b2 (f_X4_total L (w + 8) (0 : Int32) true u) (fun r4 u5 => some (r4, u5)))) else ((f_X9_tellFacts w L r1 u).bind (fun u6 => if r1 = (-1 : Int32) then (z_b2 (f_X4_total L (w + 8) (0 : Int32) false u6) (fun r7 u8 => some (r7, u8))) else (z_b2 (f_X4_total L (w + 8) (0 : Int32) true u6) (fun r9 u10 => some (r9, u10))))))
theorem f_X9_goesFarther_e (w : Nat) (L : Nat → Nat)  (u : zU) : f_X9_goesFarther w L u = (f_X9_firstIn w L (u w 14) u).bind (fun r1 => if r1 = (-1 : Int32) then (if r1 = (-1 : Int32) then (z_b2 (f_X4_total L (w + 8) (0 : Int32) false u) (fun r2 u3 => some (r2, u3))) else (z_b2 (f_X4_total L (w + 8) (0 : Int32) true u) (fun r4 u5 => some (r4, u5)))) else ((f_X9_tellFacts w L r1 u).bind (fun u6 => if r1 = (-1 : Int32) then (z_b2 (f_X4_total L (w + 8) (0 : Int32) false u6) (fun r7 u8 => some (r7, u8))) else (z_b2 (f_X4_total L (w + 8) (0 : Int32) true u6) (fun r9 u10 => some (r9, u10)))))) := rfl
set_option maxRecDepth 100000 in
set_option maxHeartbeats 4000000 in
theorem c_X9_goesFarther (l : Launch) (D : zD) (A : Nat → Prop) (b : Nat) (g : zG) (w : Nat) (L : Nat → Nat) (hw : zWh g w L)  (u : zU) {v : Int32} {u' : zU} (h : f_X9_goesFarther w L u = some (v, u')) : z_M l D A b g yX9_goesFarther cX9_goesFarther 2 (some .int) 3 78 [.ref (b + w)] u (some (.int v)) u' := by
  refine z_enter (by decide) (Nat.le_of_ble_eq_true rfl) ?_
  intro p e s m below meth c ls C0 hr hml hlk hW hS hl
  have hl : lv_has ls 2 [(0, .ref (b + w))] := hl
  have hx := C0.1
  have hb := C0.2.1
  rw [f_X9_goesFarther_e] at h
  refine lv_aload_n hx hb dX9_goesFarther_0 rfl (lv_at hl 0 rfl) ?_
  refine lv_aload_n hx hb dX9_goesFarther_1 rfl (lv_at hl 0 rfl) ?_
  refine z_geti C0 hW fl_X9_55 hw.1 rfl dX9_goesFarther_2 ?_
  replace h := z_bd h
  obtain ⟨r1, hq, h⟩ := h
  refine z_cvi (As := [.int (u w 14)]) C0 hml hl.1 hW hS (c_X9_firstIn l D A b g w L hw (u w 14) u hq) mv_X9_107 hw.1 ⟨Nat.le_of_ble_eq_true rfl, Nat.le_of_ble_eq_true rfl⟩ rfl rfl (Nat.le_of_ble_eq_true rfl) dX9_goesFarther_5 (fun H locs hW hS => ?_)
  clear hq
  refine lv_istore_n (lv' := [(1, .int r1), (0, .ref (b + w))]) hx hb dX9_goesFarther_8 rfl hl (by decide) rfl (fun ls hl => ?_)
  refine lv_iload_n hx hb dX9_goesFarther_9 rfl (lv_at hl 0 rfl) ?_
  refine lv_iconst (v := (-1 : Int32)) hx hb dX9_goesFarther_10 (by decide) ?_
  refine lv_icmp_eq (tgt := 19) hx hb dX9_goesFarther_11 (by decide) (fun hc => ?_) (fun hc => ?_)
  · replace h := z_t h hc
    clear hc
    refine lv_aload_n hx hb dX9_goesFarther_19 rfl (lv_at hl 1 rfl) ?_
    refine z_getr (o := L 0) C0 hW fl_X9_73 hw.1 rfl hw.2.2.1 dX9_goesFarther_20 ?_
    refine lv_iconst (v := (0 : Int32)) hx hb dX9_goesFarther_23 (by decide) ?_
    refine lv_aload_n hx hb dX9_goesFarther_24 rfl (lv_at hl 1 rfl) ?_
    refine z_getr (o := w + 8) C0 hW fl_X9_33 hw.1 rfl (hw.2.1 7 (by decide)).1 dX9_goesFarther_25 ?_
    refine lv_iload_n hx hb dX9_goesFarther_28 rfl (lv_at hl 0 rfl) ?_
    refine lv_iconst (v := (-1 : Int32)) hx hb dX9_goesFarther_29 (by decide) ?_
    refine lv_icmp_eq (tgt := 37) hx hb dX9_goesFarther_30 (by decide) (fun hc => ?_) (fun hc => ?_)
    · replace h := z_t h hc
      clear hc
      refine lv_iconst (v := (0 : Int32)) hx hb dX9_goesFarther_37 (by decide) ?_
      replace h := z_bd2 h
      obtain ⟨r2, u3, hq, h⟩ := h
      refine z_cvi (As := [.int (0 : Int32), .ref (b + (w + 8)), .int (bI false)]) C0 hml hl.1 hW hS (c_X4_total l D A b g L (w + 8) hw.2.2.2 ⟨(hw.2.1 7 (by decide)).2.1, (hw.2.1 7 (by decide)).2.2⟩ (0 : Int32) false u hq) mv_X9_113 hw.2.2.2.1 ⟨Nat.le_of_ble_eq_true rfl, Nat.le_of_ble_eq_true rfl⟩ rfl rfl (Nat.le_of_ble_eq_true rfl) dX9_goesFarther_38 (fun H locs hW hS => ?_)
      clear hq
      cases h
      exact z_iret C0 hr hlk hW hS dX9_goesFarther_41
    · replace h := z_f h hc
      clear hc
      refine lv_iconst (v := (1 : Int32)) hx hb dX9_goesFarther_33 (by decide) ?_
      refine lv_goto (tgt := 38) hx hb dX9_goesFarther_34 (by decide) ?_
      replace h := z_bd2 h
      obtain ⟨r4, u5, hq, h⟩ := h
      refine z_cvi (As := [.int (0 : Int32), .ref (b + (w + 8)), .int (bI true)]) C0 hml hl.1 hW hS (c_X4_total l D A b g L (w + 8) hw.2.2.2 ⟨(hw.2.1 7 (by decide)).2.1, (hw.2.1 7 (by decide)).2.2⟩ (0 : Int32) true u hq) mv_X9_113 hw.2.2.2.1 ⟨Nat.le_of_ble_eq_true rfl, Nat.le_of_ble_eq_true rfl⟩ rfl rfl (Nat.le_of_ble_eq_true rfl) dX9_goesFarther_38 (fun H locs hW hS => ?_)
      clear hq
      cases h
      exact z_iret C0 hr hlk hW hS dX9_goesFarther_41
  · replace h := z_f h hc
    clear hc
    refine lv_aload_n hx hb dX9_goesFarther_14 rfl (lv_at hl 1 rfl) ?_
    refine lv_iload_n hx hb dX9_goesFarther_15 rfl (lv_at hl 0 rfl) ?_
    replace h := z_bd h
    obtain ⟨u6, hq, h⟩ := h
    refine z_cvv (As := [.int r1]) C0 hml hl.1 hW hS (c_X9_tellFacts l D A b g w L hw r1 u hq) mv_X9_110 hw.1 ⟨Nat.le_of_ble_eq_true rfl, Nat.le_of_ble_eq_true rfl⟩ rfl rfl (Nat.le_of_ble_eq_true rfl) dX9_goesFarther_16 (fun H locs hW hS => ?_)
    clear hq
    refine lv_aload_n hx hb dX9_goesFarther_19 rfl (lv_at hl 1 rfl) ?_
    refine z_getr (o := L 0) C0 hW fl_X9_73 hw.1 rfl hw.2.2.1 dX9_goesFarther_20 ?_
    refine lv_iconst (v := (0 : Int32)) hx hb dX9_goesFarther_23 (by decide) ?_
    refine lv_aload_n hx hb dX9_goesFarther_24 rfl (lv_at hl 1 rfl) ?_
    refine z_getr (o := w + 8) C0 hW fl_X9_33 hw.1 rfl (hw.2.1 7 (by decide)).1 dX9_goesFarther_25 ?_
    refine lv_iload_n hx hb dX9_goesFarther_28 rfl (lv_at hl 0 rfl) ?_
    refine lv_iconst (v := (-1 : Int32)) hx hb dX9_goesFarther_29 (by decide) ?_
    refine lv_icmp_eq (tgt := 37) hx hb dX9_goesFarther_30 (by decide) (fun hc => ?_) (fun hc => ?_)
    · replace h := z_t h hc
      clear hc
      refine lv_iconst (v := (0 : Int32)) hx hb dX9_goesFarther_37 (by decide) ?_
      replace h := z_bd2 h
      obtain ⟨r7, u8, hq, h⟩ := h
      refine z_cvi (As := [.int (0 : Int32), .ref (b + (w + 8)), .int (bI false)]) C0 hml hl.1 hW hS (c_X4_total l D A b g L (w + 8) hw.2.2.2 ⟨(hw.2.1 7 (by decide)).2.1, (hw.2.1 7 (by decide)).2.2⟩ (0 : Int32) false u6 hq) mv_X9_113 hw.2.2.2.1 ⟨Nat.le_of_ble_eq_true rfl, Nat.le_of_ble_eq_true rfl⟩ rfl rfl (Nat.le_of_ble_eq_true rfl) dX9_goesFarther_38 (fun H locs hW hS => ?_)
      clear hq
      cases h
      exact z_iret C0 hr hlk hW hS dX9_goesFarther_41
    · replace h := z_f h hc
      clear hc
      refine lv_iconst (v := (1 : Int32)) hx hb dX9_goesFarther_33 (by decide) ?_
      refine lv_goto (tgt := 38) hx hb dX9_goesFarther_34 (by decide) ?_
      replace h := z_bd2 h
      obtain ⟨r9, u10, hq, h⟩ := h
      refine z_cvi (As := [.int (0 : Int32), .ref (b + (w + 8)), .int (bI true)]) C0 hml hl.1 hW hS (c_X4_total l D A b g L (w + 8) hw.2.2.2 ⟨(hw.2.1 7 (by decide)).2.1, (hw.2.1 7 (by decide)).2.2⟩ (0 : Int32) true u6 hq) mv_X9_113 hw.2.2.2.1 ⟨Nat.le_of_ble_eq_true rfl, Nat.le_of_ble_eq_true rfl⟩ rfl rfl (Nat.le_of_ble_eq_true rfl) dX9_goesFarther_38 (fun H locs hW hS => ?_)
      clear hq
      cases h
      exact z_iret C0 hr hlk hW hS dX9_goesFarther_41
def f_X9_owesBy (w : Nat) (L : Nat → Nat) (a1 : Int32) (a2 : Int32) (u : zU) : Option (Int32 × zU) :=
  (f_X9_tellFacts w L a1 u).bind (fun u1 => z_b2 (f_X4_total L (w + 8) (1 : Int32) true u1) (fun r2 u3 => z_b2 (f_X4_total L (w + 8) (2 : Int32) true u3) (fun r4 u5 => z_let ((a2 + r2) - r4) (fun z6 => z_let (z_max (0 : Int32) z6) (fun z7 => some (z7, u5))))))
theorem f_X9_owesBy_e (w : Nat) (L : Nat → Nat) (a1 : Int32) (a2 : Int32) (u : zU) : f_X9_owesBy w L a1 a2 u = (f_X9_tellFacts w L a1 u).bind (fun u1 => z_b2 (f_X4_total L (w + 8) (1 : Int32) true u1) (fun r2 u3 => z_b2 (f_X4_total L (w + 8) (2 : Int32) true u3) (fun r4 u5 => z_let ((a2 + r2) - r4) (fun z6 => z_let (z_max (0 : Int32) z6) (fun z7 => some (z7, u5)))))) := rfl
set_option maxRecDepth 100000 in
set_option maxHeartbeats 4000000 in
theorem c_X9_owesBy (l : Launch) (D : zD) (A : Nat → Prop) (b : Nat) (g : zG) (w : Nat) (L : Nat → Nat) (hw : zWh g w L) (a1 : Int32) (a2 : Int32) (u : zU) {v : Int32} {u' : zU} (h : f_X9_owesBy w L a1 a2 u = some (v, u')) : z_M l D A b g yX9_owesBy cX9_owesBy 4 (some .int) 3 78 [.ref (b + w), .int a1, .int a2] u (some (.int v)) u' := by
  refine z_enter (by decide) (Nat.le_of_ble_eq_true rfl) ?_
  intro p e s m below meth c ls C0 hr hml hlk hW hS hl
  have hl : lv_has ls 4 [(0, .ref (b + w)), (1, .int a1), (2, .int a2)] := hl
  have hx := C0.1
  have hb := C0.2.1
  rw [f_X9_owesBy_e] at h
  refine lv_aload_n hx hb dX9_owesBy_0 rfl (lv_at hl 0 rfl) ?_
  refine lv_iload_n hx hb dX9_owesBy_1 rfl (lv_at hl 1 rfl) ?_
  replace h := z_bd h
  obtain ⟨u1, hq, h⟩ := h
  refine z_cvv (As := [.int a1]) C0 hml hl.1 hW hS (c_X9_tellFacts l D A b g w L hw a1 u hq) mv_X9_110 hw.1 ⟨Nat.le_of_ble_eq_true rfl, Nat.le_of_ble_eq_true rfl⟩ rfl rfl (Nat.le_of_ble_eq_true rfl) dX9_owesBy_2 (fun H locs hW hS => ?_)
  clear hq
  refine lv_iload_n hx hb dX9_owesBy_5 rfl (lv_at hl 2 rfl) ?_
  refine lv_aload_n hx hb dX9_owesBy_6 rfl (lv_at hl 0 rfl) ?_
  refine z_getr (o := L 0) C0 hW fl_X9_73 hw.1 rfl hw.2.2.1 dX9_owesBy_7 ?_
  refine lv_iconst (v := (1 : Int32)) hx hb dX9_owesBy_10 (by decide) ?_
  refine lv_aload_n hx hb dX9_owesBy_11 rfl (lv_at hl 0 rfl) ?_
  refine z_getr (o := w + 8) C0 hW fl_X9_33 hw.1 rfl (hw.2.1 7 (by decide)).1 dX9_owesBy_12 ?_
  refine lv_iconst (v := (1 : Int32)) hx hb dX9_owesBy_15 (by decide) ?_
  replace h := z_bd2 h
  obtain ⟨r2, u3, hq, h⟩ := h
  refine z_cvi (As := [.int (1 : Int32), .ref (b + (w + 8)), .int (bI true)]) C0 hml hl.1 hW hS (c_X4_total l D A b g L (w + 8) hw.2.2.2 ⟨(hw.2.1 7 (by decide)).2.1, (hw.2.1 7 (by decide)).2.2⟩ (1 : Int32) true u1 hq) mv_X9_113 hw.2.2.2.1 ⟨Nat.le_of_ble_eq_true rfl, Nat.le_of_ble_eq_true rfl⟩ rfl rfl (Nat.le_of_ble_eq_true rfl) dX9_owesBy_16 (fun H locs hW hS => ?_)
  clear hq
  refine lv_iadd hx hb dX9_owesBy_19 ?_
  refine lv_aload_n hx hb dX9_owesBy_20 rfl (lv_at hl 0 rfl) ?_
  refine z_getr (o := L 0) C0 hW fl_X9_73 hw.1 rfl hw.2.2.1 dX9_owesBy_21 ?_
  refine lv_iconst (v := (2 : Int32)) hx hb dX9_owesBy_24 (by decide) ?_
  refine lv_aload_n hx hb dX9_owesBy_25 rfl (lv_at hl 0 rfl) ?_
  refine z_getr (o := w + 8) C0 hW fl_X9_33 hw.1 rfl (hw.2.1 7 (by decide)).1 dX9_owesBy_26 ?_
  refine lv_iconst (v := (1 : Int32)) hx hb dX9_owesBy_29 (by decide) ?_
  replace h := z_bd2 h
  obtain ⟨r4, u5, hq, h⟩ := h
  refine z_cvi (As := [.int (2 : Int32), .ref (b + (w + 8)), .int (bI true)]) C0 hml hl.1 hW hS (c_X4_total l D A b g L (w + 8) hw.2.2.2 ⟨(hw.2.1 7 (by decide)).2.1, (hw.2.1 7 (by decide)).2.2⟩ (2 : Int32) true u3 hq) mv_X9_113 hw.2.2.2.1 ⟨Nat.le_of_ble_eq_true rfl, Nat.le_of_ble_eq_true rfl⟩ rfl rfl (Nat.le_of_ble_eq_true rfl) dX9_owesBy_30 (fun H locs hW hS => ?_)
  clear hq
  refine lv_isub hx hb dX9_owesBy_33 ?_
  refine lv_topi (fun z6 e1 => ?_)
  replace h := z_ly h e1
  clear e1
  refine lv_istore_n (lv' := [(3, .int z6), (0, .ref (b + w)), (1, .int a1), (2, .int a2)]) hx hb dX9_owesBy_34 rfl hl (by decide) rfl (fun ls hl => ?_)
  refine lv_iconst (v := (0 : Int32)) hx hb dX9_owesBy_35 (by decide) ?_
  refine lv_iload_n hx hb dX9_owesBy_36 rfl (lv_at hl 0 rfl) ?_
  refine va_mmax hx hb (hml.trans hl.1.symm) C0.2.2.2.1 (C0.2.2.1 _ w_mm_X9_117) (C0.2.2.1 _ w_mst_max) (C0.2.2.1 _ w_min_Math) (C0.2.2.1 _ w_mco_max) (Nat.le_of_ble_eq_true rfl) (Nat.le_of_ble_eq_true rfl) (Nat.zero_le _) (Nat.zero_le _) dX9_owesBy_37 ?_
  refine lv_topi (fun z7 e1 => ?_)
  replace h := z_ly h e1
  clear e1
  cases h
  exact z_iret C0 hr hlk hW hS dX9_owesBy_40
def f_X9_collect_4 (w : Nat) (L : Nat → Nat) : Nat → Int32 → Int32 → Int32 → zU → Option (Int32 × zU)
  | 0, _, _, _, _ => none
  | n + 1, x1, x2, x3, u =>
    if (u w 8) ≤ x3 then (some (x2, u)) else (if z_in x3 8 = true then (z_let (u (w + 1) (x3).toNatClampNeg) (fun z1 => if z1 = x1 then (if z_in x3 8 = true then (z_let (u (w + 3) (x3).toNatClampNeg) (fun z2 => z_b2 (f_X9_owesBy w L x3 (u w 10) u) (fun r3 u4 => z_let (z_min z2 r3) (fun z5 => if z_in x3 8 = true then (z_let (u4 (w + 3) (x3).toNatClampNeg) (fun z6 => if z_in x3 8 = true then (z_let (z_up u4 (w + 3) (x3).toNatClampNeg (z6 - z5)) (fun u7 => z_let (z_min (9999 : Int32) ((u7 w 11) + z5)) (fun z8 => z_let (z_up u7 w 11 z8) (fun u9 => z_let (x2 + z5) (fun z10 => if z_in x3 8 = true then (z_let (u9 (w + 3) (x3).toNatClampNeg) (fun z11 => if z11 = 0 then ((f_X9_getOff w L x3 u9).bind (fun u12 => f_X9_collect_4 w L n x1 z10 (x3 + (1 : Int32)) u12)) else (f_X9_collect_4 w L n x1 z10 (x3 + (1 : Int32)) u9))) else none))))) else none)) else none)))) else none) else (f_X9_collect_4 w L n x1 x2 (x3 + (1 : Int32)) u))) else none)
theorem f_X9_collect_4_s (w : Nat) (L : Nat → Nat) (n : Nat) (x1 : Int32) (x2 : Int32) (x3 : Int32) (u : zU) : f_X9_collect_4 w L (n + 1) x1 x2 x3 u = if (u w 8) ≤ x3 then (some (x2, u)) else (if z_in x3 8 = true then (z_let (u (w + 1) (x3).toNatClampNeg) (fun z1 => if z1 = x1 then (if z_in x3 8 = true then (z_let (u (w + 3) (x3).toNatClampNeg) (fun z2 => z_b2 (f_X9_owesBy w L x3 (u w 10) u) (fun r3 u4 => z_let (z_min z2 r3) (fun z5 => if z_in x3 8 = true then (z_let (u4 (w + 3) (x3).toNatClampNeg) (fun z6 => if z_in x3 8 = true then (z_let (z_up u4 (w + 3) (x3).toNatClampNeg (z6 - z5)) (fun u7 => z_let (z_min (9999 : Int32) ((u7 w 11) + z5)) (fun z8 => z_let (z_up u7 w 11 z8) (fun u9 => z_let (x2 + z5) (fun z10 => if z_in x3 8 = true then (z_let (u9 (w + 3) (x3).toNatClampNeg) (fun z11 => if z11 = 0 then ((f_X9_getOff w L x3 u9).bind (fun u12 => f_X9_collect_4 w L n x1 z10 (x3 + (1 : Int32)) u12)) else (f_X9_collect_4 w L n x1 z10 (x3 + (1 : Int32)) u9))) else none))))) else none)) else none)))) else none) else (f_X9_collect_4 w L n x1 x2 (x3 + (1 : Int32)) u))) else none) := rfl
def f_X9_collect (w : Nat) (L : Nat → Nat) (a1 : Int32) (u : zU) : Option (Int32 × zU) :=
  f_X9_collect_4 w L 5000 a1 (0 : Int32) (0 : Int32) u
set_option maxRecDepth 100000 in
set_option maxHeartbeats 4000000 in
theorem l_X9_collect_4 {l : Launch} {D : zD} {A : Nat → Prop} {b : Nat} {p : Program} {e : Env} {s : State} {m : MethodId} {args : Array Value} {below : List Frame} {meth : Method} {c : Code} {g : zG} {w : Nat} {L : Nat → Nat} {v : Int32} {u' : zU} (C0 : z_C p c cX9_collect s m args yX9_collect.cls D A) (hr : meth.sig.returnType = (some .int)) (hml : c.maxLocals = 5) (hlk : meth.locks = false) (hw : zWh g w L) : ∀ (n : Nat) (x1 : Int32) (x2 : Int32) (x3 : Int32) (u : zU) (H : Heap) (locs : List Loc) (ls : Array Slot), f_X9_collect_4 w L n x1 x2 x3 u = some (v, u') → z_W D A b g u H → va_S A s.heap H locs → lv_has ls 5 [(0, .ref (b + w)), (1, .int x1), (2, .int x2), (3, .int x3)] → W p l e { frames := 4, cells := 0, slots := 0, locals := 101 } s m args below meth c H locs 0 0 (z_End D A b g below args s (some (.int v)) u') (F0 m 4 ls []) := by
  have hx := C0.1
  have hb := C0.2.1
  intro n
  induction n with
  | zero => intro x1 x2 x3 u H locs ls h hW hS hl; cases h
  | succ n ih =>
    intro x1 x2 x3 u H locs ls h hW hS hl
    rw [f_X9_collect_4_s] at h
    refine lv_iload_n hx hb dX9_collect_4 rfl (lv_at hl 3 rfl) ?_
    refine lv_aload_n hx hb dX9_collect_5 rfl (lv_at hl 0 rfl) ?_
    refine z_geti C0 hW fl_X9_36 hw.1 rfl dX9_collect_6 ?_
    refine lv_icmp_ge (tgt := 95) hx hb dX9_collect_9 (by decide) (fun hc => ?_) (fun hc => ?_)
    · replace h := z_t h hc
      clear hc
      refine lv_iload_n hx hb dX9_collect_95 rfl (lv_at hl 2 rfl) ?_
      cases h
      exact z_iret C0 hr hlk hW hS dX9_collect_96
    · replace h := z_f h hc
      clear hc
      refine lv_aload_n hx hb dX9_collect_12 rfl (lv_at hl 0 rfl) ?_
      refine z_getr (o := w + 1) C0 hW fl_X9_9 hw.1 rfl (hw.2.1 0 (by decide)).1 dX9_collect_13 ?_
      refine lv_iload_n hx hb dX9_collect_16 rfl (lv_at hl 3 rfl) ?_
      replace h := z_if h
      obtain ⟨hin, h⟩ := h
      refine z_iald (n := 8) C0 hW (hw.2.1 0 (by decide)).2.1 (hw.2.1 0 (by decide)).2.2 hin rfl dX9_collect_17 ?_
      clear hin
      refine lv_topi (fun z1 e1 => ?_)
      replace h := z_ly h e1
      clear e1
      refine lv_iload_n hx hb dX9_collect_18 rfl (lv_at hl 1 rfl) ?_
      refine lv_icmp_ne (tgt := 89) hx hb dX9_collect_19 (by decide) (fun hc => ?_) (fun hc => ?_)
      · replace h := z_f h hc
        clear hc
        refine lv_iinc (v := x3 + (1 : Int32)) (lv' := [(3, .int (x3 + (1 : Int32))), (0, .ref (b + w)), (1, .int x1), (2, .int x2)]) hx hb dX9_collect_89 hl (k := 3) rfl rfl (by decide) rfl (fun ls hl => ?_)
        refine lv_goto (tgt := 4) hx hb dX9_collect_92 (by decide) ?_
        exact ih _ _ _ _ _ _ _ h hW hS (lv_sub hl [1, 2, 3, 0] rfl)
      · replace h := z_t h hc
        clear hc
        refine lv_aload_n hx hb dX9_collect_22 rfl (lv_at hl 0 rfl) ?_
        refine z_getr (o := w + 3) C0 hW fl_X9_18 hw.1 rfl (hw.2.1 2 (by decide)).1 dX9_collect_23 ?_
        refine lv_iload_n hx hb dX9_collect_26 rfl (lv_at hl 3 rfl) ?_
        replace h := z_if h
        obtain ⟨hin, h⟩ := h
        refine z_iald (n := 8) C0 hW (hw.2.1 2 (by decide)).2.1 (hw.2.1 2 (by decide)).2.2 hin rfl dX9_collect_27 ?_
        clear hin
        refine lv_topi (fun z2 e1 => ?_)
        replace h := z_ly h e1
        clear e1
        refine lv_aload_n hx hb dX9_collect_28 rfl (lv_at hl 0 rfl) ?_
        refine lv_iload_n hx hb dX9_collect_29 rfl (lv_at hl 3 rfl) ?_
        refine lv_aload_n hx hb dX9_collect_30 rfl (lv_at hl 0 rfl) ?_
        refine z_geti C0 hW fl_X9_43 hw.1 rfl dX9_collect_31 ?_
        replace h := z_bd2 h
        obtain ⟨r3, u4, hq, h⟩ := h
        refine z_cvi (As := [.int x3, .int (u w 10)]) C0 hml hl.1 hW hS (c_X9_owesBy l D A b g w L hw x3 (u w 10) u hq) mv_X9_141 hw.1 ⟨Nat.le_of_ble_eq_true rfl, Nat.le_of_ble_eq_true rfl⟩ rfl rfl (Nat.le_of_ble_eq_true rfl) dX9_collect_34 (fun H locs hW hS => ?_)
        clear hq
        refine va_mmin hx hb (hml.trans hl.1.symm) C0.2.2.2.1 (C0.2.2.1 _ w_mm_X9_138) (C0.2.2.1 _ w_mst_min) (C0.2.2.1 _ w_min_Math) (C0.2.2.1 _ w_mco_min) (Nat.le_of_ble_eq_true rfl) (Nat.le_of_ble_eq_true rfl) (Nat.zero_le _) (Nat.zero_le _) dX9_collect_37 ?_
        refine lv_topi (fun z5 e1 => ?_)
        replace h := z_ly h e1
        clear e1
        refine lv_istore (lv' := [(4, .int z5), (0, .ref (b + w)), (1, .int x1), (2, .int x2), (3, .int x3)]) hx hb dX9_collect_40 hl (by decide) rfl (fun ls hl => ?_)
        refine lv_aload_n hx hb dX9_collect_42 rfl (lv_at hl 1 rfl) ?_
        refine z_getr (o := w + 3) C0 hW fl_X9_18 hw.1 rfl (hw.2.1 2 (by decide)).1 dX9_collect_43 ?_
        refine lv_iload_n hx hb dX9_collect_46 rfl (lv_at hl 4 rfl) ?_
        refine lv_dup2_11 hx hb dX9_collect_47 rfl rfl ?_
        replace h := z_if h
        obtain ⟨hin, h⟩ := h
        refine z_iald (n := 8) C0 hW (hw.2.1 2 (by decide)).2.1 (hw.2.1 2 (by decide)).2.2 hin rfl dX9_collect_48 ?_
        clear hin
        refine lv_topi (fun z6 e1 => ?_)
        replace h := z_ly h e1
        clear e1
        refine lv_iload hx hb dX9_collect_49 (lv_at hl 0 rfl) ?_
        refine lv_isub hx hb dX9_collect_51 ?_
        replace h := z_if h
        obtain ⟨hin, h⟩ := h
        refine z_iast (n := 8) C0 hW hS (hw.2.1 2 (by decide)).2.1 (hw.2.1 2 (by decide)).2.2 hin rfl dX9_collect_52 (fun H locs u7 e1 hW hS => ?_)
        replace h := z_ly h e1
        clear e1
        refine lv_aload_n hx hb dX9_collect_53 rfl (lv_at hl 1 rfl) ?_
        refine lv_sipush (v := (9999 : Int32)) hx hb dX9_collect_54 (by decide) ?_
        refine lv_aload_n hx hb dX9_collect_57 rfl (lv_at hl 1 rfl) ?_
        refine z_geti C0 hW fl_X9_46 hw.1 rfl dX9_collect_58 ?_
        refine lv_iload hx hb dX9_collect_61 (lv_at hl 0 rfl) ?_
        refine lv_iadd hx hb dX9_collect_63 ?_
        refine va_mmin hx hb (hml.trans hl.1.symm) C0.2.2.2.1 (C0.2.2.1 _ w_mm_X9_138) (C0.2.2.1 _ w_mst_min) (C0.2.2.1 _ w_min_Math) (C0.2.2.1 _ w_mco_min) (Nat.le_of_ble_eq_true rfl) (Nat.le_of_ble_eq_true rfl) (Nat.zero_le _) (Nat.zero_le _) dX9_collect_64 ?_
        refine lv_topi (fun z8 e1 => ?_)
        replace h := z_ly h e1
        clear e1
        refine z_puti C0 hW hS fl_X9_46 hw.1 rfl rfl rfl dX9_collect_67 (fun H locs u9 e1 hW hS => ?_)
        replace h := z_ly h e1
        clear e1
        refine lv_iload_n hx hb dX9_collect_70 rfl (lv_at hl 3 rfl) ?_
        refine lv_iload hx hb dX9_collect_71 (lv_at hl 0 rfl) ?_
        refine lv_iadd hx hb dX9_collect_73 ?_
        refine lv_topi (fun z10 e1 => ?_)
        replace h := z_ly h e1
        clear e1
        refine lv_istore_n (lv' := [(2, .int z10), (4, .int z5), (0, .ref (b + w)), (1, .int x1), (3, .int x3)]) hx hb dX9_collect_74 rfl hl (by decide) rfl (fun ls hl => ?_)
        refine lv_aload_n hx hb dX9_collect_75 rfl (lv_at hl 2 rfl) ?_
        refine z_getr (o := w + 3) C0 hW fl_X9_18 hw.1 rfl (hw.2.1 2 (by decide)).1 dX9_collect_76 ?_
        refine lv_iload_n hx hb dX9_collect_79 rfl (lv_at hl 4 rfl) ?_
        replace h := z_if h
        obtain ⟨hin, h⟩ := h
        refine z_iald (n := 8) C0 hW (hw.2.1 2 (by decide)).2.1 (hw.2.1 2 (by decide)).2.2 hin rfl dX9_collect_80 ?_
        clear hin
        refine lv_topi (fun z11 e1 => ?_)
        replace h := z_ly h e1
        clear e1
        refine lv_if_ne (tgt := 89) hx hb dX9_collect_81 (by decide) (fun hc => ?_) (fun hc => ?_)
        · replace h := z_f h hc
          clear hc
          refine lv_iinc (v := x3 + (1 : Int32)) (lv' := [(3, .int (x3 + (1 : Int32))), (2, .int z10), (4, .int z5), (0, .ref (b + w)), (1, .int x1)]) hx hb dX9_collect_89 hl (k := 4) rfl rfl (by decide) rfl (fun ls hl => ?_)
          refine lv_goto (tgt := 4) hx hb dX9_collect_92 (by decide) ?_
          exact ih _ _ _ _ _ _ _ h hW hS (lv_sub hl [3, 4, 1, 0] rfl)
        · replace h := z_t h hc
          clear hc
          refine lv_aload_n hx hb dX9_collect_84 rfl (lv_at hl 2 rfl) ?_
          refine lv_iload_n hx hb dX9_collect_85 rfl (lv_at hl 4 rfl) ?_
          replace h := z_bd h
          obtain ⟨u12, hq, h⟩ := h
          refine z_cvv (As := [.int x3]) C0 hml hl.1 hW hS (c_X9_getOff l D A b g w L hw x3 u9 hq) mv_X9_100 hw.1 ⟨Nat.le_of_ble_eq_true rfl, Nat.le_of_ble_eq_true rfl⟩ rfl rfl (Nat.le_of_ble_eq_true rfl) dX9_collect_86 (fun H locs hW hS => ?_)
          clear hq
          refine lv_iinc (v := x3 + (1 : Int32)) (lv' := [(3, .int (x3 + (1 : Int32))), (2, .int z10), (4, .int z5), (0, .ref (b + w)), (1, .int x1)]) hx hb dX9_collect_89 hl (k := 4) rfl rfl (by decide) rfl (fun ls hl => ?_)
          refine lv_goto (tgt := 4) hx hb dX9_collect_92 (by decide) ?_
          exact ih _ _ _ _ _ _ _ h hW hS (lv_sub hl [3, 4, 1, 0] rfl)
theorem f_X9_collect_e (w : Nat) (L : Nat → Nat) (a1 : Int32) (u : zU) : f_X9_collect w L a1 u = f_X9_collect_4 w L 5000 a1 (0 : Int32) (0 : Int32) u := rfl
set_option maxRecDepth 100000 in
set_option maxHeartbeats 4000000 in
theorem c_X9_collect (l : Launch) (D : zD) (A : Nat → Prop) (b : Nat) (g : zG) (w : Nat) (L : Nat → Nat) (hw : zWh g w L) (a1 : Int32) (u : zU) {v : Int32} {u' : zU} (h : f_X9_collect w L a1 u = some (v, u')) : z_M l D A b g yX9_collect cX9_collect 5 (some .int) 4 101 [.ref (b + w), .int a1] u (some (.int v)) u' := by
  refine z_enter (by decide) (Nat.le_of_ble_eq_true rfl) ?_
  intro p e s m below meth c ls C0 hr hml hlk hW hS hl
  have hl : lv_has ls 5 [(0, .ref (b + w)), (1, .int a1)] := hl
  have hx := C0.1
  have hb := C0.2.1
  rw [f_X9_collect_e] at h
  refine lv_iconst (v := (0 : Int32)) hx hb dX9_collect_0 (by decide) ?_
  refine lv_istore_n (lv' := [(2, .int (0 : Int32)), (0, .ref (b + w)), (1, .int a1)]) hx hb dX9_collect_1 rfl hl (by decide) rfl (fun ls hl => ?_)
  refine lv_iconst (v := (0 : Int32)) hx hb dX9_collect_2 (by decide) ?_
  refine lv_istore_n (lv' := [(3, .int (0 : Int32)), (2, .int (0 : Int32)), (0, .ref (b + w)), (1, .int a1)]) hx hb dX9_collect_3 rfl hl (by decide) rfl (fun ls hl => ?_)
  exact l_X9_collect_4 C0 hr hml hlk hw 5000 _ _ _ _ _ _ _ h hW hS (lv_sub hl [2, 3, 1, 0] rfl)
def f_X5_readSum_7 : Nat → Int32 → Int32 → zU → Option (Int32 × zU)
  | 0, _, _, _ => none
  | n + 1, x1, x2, u =>
    if (400 : Int32) ≤ x2 then (some (x1, u)) else (z_b2 (f_X8_takes 42 u) (fun t3 u4 => if t3 = true then (z_b2 (f_X5_readPart u4) (fun r5 u6 => z_b2 (f_X5_node (2 : Int32) x1 r5 u6) (fun r7 u8 => f_X5_readSum_7 n r7 (x2 + (1 : Int32)) u8))) else (some (x1, u4))))
theorem f_X5_readSum_7_s (n : Nat) (x1 : Int32) (x2 : Int32) (u : zU) : f_X5_readSum_7 (n + 1) x1 x2 u = if (400 : Int32) ≤ x2 then (some (x1, u)) else (z_b2 (f_X8_takes 42 u) (fun t3 u4 => if t3 = true then (z_b2 (f_X5_readPart u4) (fun r5 u6 => z_b2 (f_X5_node (2 : Int32) x1 r5 u6) (fun r7 u8 => f_X5_readSum_7 n r7 (x2 + (1 : Int32)) u8))) else (some (x1, u4)))) := rfl
def f_X5_readSum  (u : zU) : Option (Int32 × zU) :=
  z_b2 (f_X5_readPart u) (fun r1 u2 => f_X5_readSum_7 5000 r1 (0 : Int32) u2)
set_option maxRecDepth 100000 in
set_option maxHeartbeats 4000000 in
theorem l_X5_readSum_7 {l : Launch} {D : zD} {A : Nat → Prop} {b : Nat} {p : Program} {e : Env} {s : State} {m : MethodId} {args : Array Value} {below : List Frame} {meth : Method} {c : Code} {g : zG} {v : Int32} {u' : zU} (C0 : z_C p c cX5_readSum s m args yX5_readSum.cls D A) (hr : meth.sig.returnType = (some .int)) (hml : c.maxLocals = 3) (hlk : meth.locks = false) (hs : zSt g) : ∀ (n : Nat) (x1 : Int32) (x2 : Int32) (u : zU) (H : Heap) (locs : List Loc) (ls : Array Slot), f_X5_readSum_7 n x1 x2 u = some (v, u') → z_W D A b g u H → va_S A s.heap H locs → lv_has ls 3 [(0, .ref (b + 29)), (1, .int x1), (2, .int x2)] → W p l e { frames := 6, cells := 0, slots := 0, locals := 131 } s m args below meth c H locs 0 0 (z_End D A b g below args s (some (.int v)) u') (F0 m 7 ls []) := by
  have hx := C0.1
  have hb := C0.2.1
  intro n
  induction n with
  | zero => intro x1 x2 u H locs ls h hW hS hl; cases h
  | succ n ih =>
    intro x1 x2 u H locs ls h hW hS hl
    rw [f_X5_readSum_7_s] at h
    refine lv_iload_n hx hb dX5_readSum_7 rfl (lv_at hl 2 rfl) ?_
    refine lv_sipush (v := (400 : Int32)) hx hb dX5_readSum_8 (by decide) ?_
    refine lv_icmp_ge (tgt := 43) hx hb dX5_readSum_11 (by decide) (fun hc => ?_) (fun hc => ?_)
    · replace h := z_t h hc
      clear hc
      refine lv_iload_n hx hb dX5_readSum_43 rfl (lv_at hl 1 rfl) ?_
      cases h
      exact z_iret C0 hr hlk hW hS dX5_readSum_44
    · replace h := z_f h hc
      clear hc
      refine lv_aload_n hx hb dX5_readSum_14 rfl (lv_at hl 0 rfl) ?_
      refine z_getr (o := 3) C0 hW fl_X5_37 (zk1 (hs 29 (by decide))) rfl (zk3 (hs 29 (by decide)) 0) dX5_readSum_15 ?_
      refine z_ldcS (k := 42) (tx := "+") C0 (List.mem_of_getElem? (i := 42) rfl) dX5_readSum_18 ?_
      replace h := z_bd2 h
      obtain ⟨t3, u4, hq, h⟩ := h
      refine z_cvi (As := [.ref (sA D 42)]) C0 hml hl.1 hW hS (c_X8_takes l D A b g hs 42 (by decide) u hq) mv_X5_43 (zk1 (hs 3 (by decide))) ⟨Nat.le_of_ble_eq_true rfl, Nat.le_of_ble_eq_true rfl⟩ rfl rfl (Nat.le_of_ble_eq_true rfl) dX5_readSum_20 (fun H locs hW hS => ?_)
      clear hq
      refine z_ifeqZ C0 (tgt := 43) dX5_readSum_23 (by decide) (fun hc => ?_) (fun hc => ?_)
      · replace h := z_ff h hc
        clear hc
        refine lv_iload_n hx hb dX5_readSum_43 rfl (lv_at hl 1 rfl) ?_
        cases h
        exact z_iret C0 hr hlk hW hS dX5_readSum_44
      · replace h := z_t h hc
        clear hc
        refine lv_aload_n hx hb dX5_readSum_26 rfl (lv_at hl 0 rfl) ?_
        refine lv_iconst (v := (2 : Int32)) hx hb dX5_readSum_27 (by decide) ?_
        refine lv_iload_n hx hb dX5_readSum_28 rfl (lv_at hl 1 rfl) ?_
        refine lv_aload_n hx hb dX5_readSum_29 rfl (lv_at hl 0 rfl) ?_
        replace h := z_bd2 h
        obtain ⟨r5, u6, hq, h⟩ := h
        refine z_cvi (As := []) C0 hml hl.1 hW hS (c_X5_readPart l D A b g hs u4 hq) mv_X5_102 (zk1 (hs 29 (by decide))) ⟨Nat.le_of_ble_eq_true rfl, Nat.le_of_ble_eq_true rfl⟩ rfl rfl (Nat.le_of_ble_eq_true rfl) dX5_readSum_30 (fun H locs hW hS => ?_)
        clear hq
        replace h := z_bd2 h
        obtain ⟨r7, u8, hq, h⟩ := h
        refine z_cvi (As := [.int (2 : Int32), .int x1, .int r5]) C0 hml hl.1 hW hS (c_X5_node l D A b g hs (2 : Int32) x1 r5 u6 hq) mv_X5_76 (zk1 (hs 29 (by decide))) ⟨Nat.le_of_ble_eq_true rfl, Nat.le_of_ble_eq_true rfl⟩ rfl rfl (Nat.le_of_ble_eq_true rfl) dX5_readSum_33 (fun H locs hW hS => ?_)
        clear hq
        refine lv_istore_n (lv' := [(1, .int r7), (0, .ref (b + 29)), (2, .int x2)]) hx hb dX5_readSum_36 rfl hl (by decide) rfl (fun ls hl => ?_)
        refine lv_iinc (v := x2 + (1 : Int32)) (lv' := [(2, .int (x2 + (1 : Int32))), (1, .int r7), (0, .ref (b + 29))]) hx hb dX5_readSum_37 hl (k := 2) rfl rfl (by decide) rfl (fun ls hl => ?_)
        refine lv_goto (tgt := 7) hx hb dX5_readSum_40 (by decide) ?_
        exact ih _ _ _ _ _ _ h hW hS (lv_sub hl [2, 1, 0] rfl)
theorem f_X5_readSum_e  (u : zU) : f_X5_readSum u = z_b2 (f_X5_readPart u) (fun r1 u2 => f_X5_readSum_7 5000 r1 (0 : Int32) u2) := rfl
set_option maxRecDepth 100000 in
set_option maxHeartbeats 4000000 in
theorem c_X5_readSum (l : Launch) (D : zD) (A : Nat → Prop) (b : Nat) (g : zG) (hs : zSt g)  (u : zU) {v : Int32} {u' : zU} (h : f_X5_readSum u = some (v, u')) : z_M l D A b g yX5_readSum cX5_readSum 3 (some .int) 6 131 [.ref (b + 29)] u (some (.int v)) u' := by
  refine z_enter (by decide) (Nat.le_of_ble_eq_true rfl) ?_
  intro p e s m below meth c ls C0 hr hml hlk hW hS hl
  have hl : lv_has ls 3 [(0, .ref (b + 29))] := hl
  have hx := C0.1
  have hb := C0.2.1
  rw [f_X5_readSum_e] at h
  refine lv_aload_n hx hb dX5_readSum_0 rfl (lv_at hl 0 rfl) ?_
  replace h := z_bd2 h
  obtain ⟨r1, u2, hq, h⟩ := h
  refine z_cvi (As := []) C0 hml hl.1 hW hS (c_X5_readPart l D A b g hs u hq) mv_X5_102 (zk1 (hs 29 (by decide))) ⟨Nat.le_of_ble_eq_true rfl, Nat.le_of_ble_eq_true rfl⟩ rfl rfl (Nat.le_of_ble_eq_true rfl) dX5_readSum_1 (fun H locs hW hS => ?_)
  clear hq
  refine lv_istore_n (lv' := [(1, .int r1), (0, .ref (b + 29))]) hx hb dX5_readSum_4 rfl hl (by decide) rfl (fun ls hl => ?_)
  refine lv_iconst (v := (0 : Int32)) hx hb dX5_readSum_5 (by decide) ?_
  refine lv_istore_n (lv' := [(2, .int (0 : Int32)), (1, .int r1), (0, .ref (b + 29))]) hx hb dX5_readSum_6 rfl hl (by decide) rfl (fun ls hl => ?_)
  exact l_X5_readSum_7 C0 hr hml hlk hs 5000 _ _ _ _ _ _ h hW hS (lv_sub hl [2, 1, 0] rfl)
def f_X1_readLine (L : Nat → Nat)  (u : zU) : Option (zU) :=
  if (8 : Int32) ≤ (u 17 8) then (z_b2 (f_X8_takes 19 u) (fun t1 u2 => if t1 = true then (z_b2 (f_X8_number (0 : Int32) (7 : Int32) u2) (fun r29 u30 => z_b2 (f_X8_number (0 : Int32) (9 : Int32) u30) (fun r31 u32 => if z_in (r29 &&& (7 : Int32)) 8 = true then (z_let (z_up u32 23 (r29 &&& (7 : Int32)).toNatClampNeg r31) (fun u33 => some u33)) else none))) else (z_b2 (f_X8_takes 20 u2) (fun t3 u4 => if t3 = true then (z_b2 (f_X8_number (0 : Int32) (99 : Int32) u4) (fun r26 u27 => z_let (z_up u27 17 10 r26) (fun u28 => some u28))) else (z_b2 (f_X8_takes 21 u4) (fun t5 u6 => if t5 = true then (z_b2 (f_X8_number (0 : Int32) (999 : Int32) u6) (fun r23 u24 => z_let (z_up u24 17 11 r23) (fun u25 => some u25))) else (z_b2 (f_X8_takes 22 u6) (fun t7 u8 => if t7 = true then (z_b2 (f_X8_number (1 : Int32) (8 : Int32) u8) (fun r20 u21 => z_let (z_up u21 17 12 r20) (fun u22 => some u22))) else (z_b2 (f_X8_takes 23 u8) (fun t9 u10 => if t9 = true then (z_b2 (f_X8_number (0 : Int32) (100 : Int32) u10) (fun r17 u18 => z_let (z_up u18 17 13 r17) (fun u19 => some u19))) else (z_b2 (f_X8_takes 24 u10) (fun t11 u12 => if t11 = true then (z_b2 (f_X8_number (0 : Int32) (7 : Int32) u12) (fun r14 u15 => z_let (z_up u15 17 14 r14) (fun u16 => some u16))) else ((f_X8_refuse u12).bind (fun u13 => some u13)))))))))))))) else (z_b2 (f_X8_takes 18 u) (fun t34 u35 => if t34 = true then ((f_X1_readRider L u35).bind (fun u69 => some u69)) else (z_b2 (f_X8_takes 19 u35) (fun t36 u37 => if t36 = true then (z_b2 (f_X8_number (0 : Int32) (7 : Int32) u37) (fun r64 u65 => z_b2 (f_X8_number (0 : Int32) (9 : Int32) u65) (fun r66 u67 => if z_in (r64 &&& (7 : Int32)) 8 = true then (z_let (z_up u67 23 (r64 &&& (7 : Int32)).toNatClampNeg r66) (fun u68 => some u68)) else none))) else (z_b2 (f_X8_takes 20 u37) (fun t38 u39 => if t38 = true then (z_b2 (f_X8_number (0 : Int32) (99 : Int32) u39) (fun r61 u62 => z_let (z_up u62 17 10 r61) (fun u63 => some u63))) else (z_b2 (f_X8_takes 21 u39) (fun t40 u41 => if t40 = true then (z_b2 (f_X8_number (0 : Int32) (999 : Int32) u41) (fun r58 u59 => z_let (z_up u59 17 11 r58) (fun u60 => some u60))) else (z_b2 (f_X8_takes 22 u41) (fun t42 u43 => if t42 = true then (z_b2 (f_X8_number (1 : Int32) (8 : Int32) u43) (fun r55 u56 => z_let (z_up u56 17 12 r55) (fun u57 => some u57))) else (z_b2 (f_X8_takes 23 u43) (fun t44 u45 => if t44 = true then (z_b2 (f_X8_number (0 : Int32) (100 : Int32) u45) (fun r52 u53 => z_let (z_up u53 17 13 r52) (fun u54 => some u54))) else (z_b2 (f_X8_takes 24 u45) (fun t46 u47 => if t46 = true then (z_b2 (f_X8_number (0 : Int32) (7 : Int32) u47) (fun r49 u50 => z_let (z_up u50 17 14 r49) (fun u51 => some u51))) else ((f_X8_refuse u47).bind (fun u48 => some u48))))))))))))))))
theorem f_X1_readLine_e (L : Nat → Nat)  (u : zU) : f_X1_readLine L u = if (8 : Int32) ≤ (u 17 8) then (z_b2 (f_X8_takes 19 u) (fun t1 u2 => if t1 = true then (z_b2 (f_X8_number (0 : Int32) (7 : Int32) u2) (fun r29 u30 => z_b2 (f_X8_number (0 : Int32) (9 : Int32) u30) (fun r31 u32 => if z_in (r29 &&& (7 : Int32)) 8 = true then (z_let (z_up u32 23 (r29 &&& (7 : Int32)).toNatClampNeg r31) (fun u33 => some u33)) else none))) else (z_b2 (f_X8_takes 20 u2) (fun t3 u4 => if t3 = true then (z_b2 (f_X8_number (0 : Int32) (99 : Int32) u4) (fun r26 u27 => z_let (z_up u27 17 10 r26) (fun u28 => some u28))) else (z_b2 (f_X8_takes 21 u4) (fun t5 u6 => if t5 = true then (z_b2 (f_X8_number (0 : Int32) (999 : Int32) u6) (fun r23 u24 => z_let (z_up u24 17 11 r23) (fun u25 => some u25))) else (z_b2 (f_X8_takes 22 u6) (fun t7 u8 => if t7 = true then (z_b2 (f_X8_number (1 : Int32) (8 : Int32) u8) (fun r20 u21 => z_let (z_up u21 17 12 r20) (fun u22 => some u22))) else (z_b2 (f_X8_takes 23 u8) (fun t9 u10 => if t9 = true then (z_b2 (f_X8_number (0 : Int32) (100 : Int32) u10) (fun r17 u18 => z_let (z_up u18 17 13 r17) (fun u19 => some u19))) else (z_b2 (f_X8_takes 24 u10) (fun t11 u12 => if t11 = true then (z_b2 (f_X8_number (0 : Int32) (7 : Int32) u12) (fun r14 u15 => z_let (z_up u15 17 14 r14) (fun u16 => some u16))) else ((f_X8_refuse u12).bind (fun u13 => some u13)))))))))))))) else (z_b2 (f_X8_takes 18 u) (fun t34 u35 => if t34 = true then ((f_X1_readRider L u35).bind (fun u69 => some u69)) else (z_b2 (f_X8_takes 19 u35) (fun t36 u37 => if t36 = true then (z_b2 (f_X8_number (0 : Int32) (7 : Int32) u37) (fun r64 u65 => z_b2 (f_X8_number (0 : Int32) (9 : Int32) u65) (fun r66 u67 => if z_in (r64 &&& (7 : Int32)) 8 = true then (z_let (z_up u67 23 (r64 &&& (7 : Int32)).toNatClampNeg r66) (fun u68 => some u68)) else none))) else (z_b2 (f_X8_takes 20 u37) (fun t38 u39 => if t38 = true then (z_b2 (f_X8_number (0 : Int32) (99 : Int32) u39) (fun r61 u62 => z_let (z_up u62 17 10 r61) (fun u63 => some u63))) else (z_b2 (f_X8_takes 21 u39) (fun t40 u41 => if t40 = true then (z_b2 (f_X8_number (0 : Int32) (999 : Int32) u41) (fun r58 u59 => z_let (z_up u59 17 11 r58) (fun u60 => some u60))) else (z_b2 (f_X8_takes 22 u41) (fun t42 u43 => if t42 = true then (z_b2 (f_X8_number (1 : Int32) (8 : Int32) u43) (fun r55 u56 => z_let (z_up u56 17 12 r55) (fun u57 => some u57))) else (z_b2 (f_X8_takes 23 u43) (fun t44 u45 => if t44 = true then (z_b2 (f_X8_number (0 : Int32) (100 : Int32) u45) (fun r52 u53 => z_let (z_up u53 17 13 r52) (fun u54 => some u54))) else (z_b2 (f_X8_takes 24 u45) (fun t46 u47 => if t46 = true then (z_b2 (f_X8_number (0 : Int32) (7 : Int32) u47) (fun r49 u50 => z_let (z_up u50 17 14 r49) (fun u51 => some u51))) else ((f_X8_refuse u47).bind (fun u48 => some u48)))))))))))))))) := rfl
set_option maxRecDepth 100000 in
set_option maxHeartbeats 4000000 in
theorem c_X1_readLine (l : Launch) (D : zD) (A : Nat → Prop) (b : Nat) (g : zG) (L : Nat → Nat) (hs : zSt g) (hd : zWh g 17 L)  (u : zU) {u' : zU} (h : f_X1_readLine L u = some u') : z_M l D A b g yX1_readLine cX1_readLine 2 none 7 154 [.ref (b + 28)] u none u' := by
  refine z_enter (by decide) (Nat.le_of_ble_eq_true rfl) ?_
  intro p e s m below meth c ls C0 hr hml hlk hW hS hl
  have hl : lv_has ls 2 [(0, .ref (b + 28))] := hl
  have hx := C0.1
  have hb := C0.2.1
  rw [f_X1_readLine_e] at h
  refine lv_aload_n hx hb dX1_readLine_0 rfl (lv_at hl 0 rfl) ?_
  refine z_getr (o := 17) C0 hW fl_X1_11 (zk1 (hs 28 (by decide))) rfl (zk3 (hs 28 (by decide)) 2) dX1_readLine_1 ?_
  refine z_geti C0 hW fl_X1_15 hd.1 rfl dX1_readLine_4 ?_
  refine lv_bipush (v := (8 : Int32)) hx hb dX1_readLine_7 (by decide) ?_
  refine lv_icmp_ge (tgt := 31) hx hb dX1_readLine_9 (by decide) (fun hc => ?_) (fun hc => ?_)
  · replace h := z_t h hc
    clear hc
    refine lv_aload_n hx hb dX1_readLine_31 rfl (lv_at hl 0 rfl) ?_
    refine z_getr (o := 3) C0 hW fl_X1_21 (zk1 (hs 28 (by decide))) rfl (zk3 (hs 28 (by decide)) 0) dX1_readLine_32 ?_
    refine z_ldcS (k := 19) (tx := "bolts") C0 (List.mem_of_getElem? (i := 19) rfl) dX1_readLine_35 ?_
    replace h := z_bd2 h
    obtain ⟨t1, u2, hq, h⟩ := h
    refine z_cvi (As := [.ref (sA D 19)]) C0 hml hl.1 hW hS (c_X8_takes l D A b g hs 19 (by decide) u hq) mv_X1_27 (zk1 (hs 3 (by decide))) ⟨Nat.le_of_ble_eq_true rfl, Nat.le_of_ble_eq_true rfl⟩ rfl rfl (Nat.le_of_ble_eq_true rfl) dX1_readLine_37 (fun H locs hW hS => ?_)
    clear hq
    refine z_ifeqZ C0 (tgt := 79) dX1_readLine_40 (by decide) (fun hc => ?_) (fun hc => ?_)
    · replace h := z_ff h hc
      clear hc
      refine lv_aload_n hx hb dX1_readLine_79 rfl (lv_at hl 0 rfl) ?_
      refine z_getr (o := 3) C0 hW fl_X1_21 (zk1 (hs 28 (by decide))) rfl (zk3 (hs 28 (by decide)) 0) dX1_readLine_80 ?_
      refine z_ldcS (k := 20) (tx := "fare") C0 (List.mem_of_getElem? (i := 20) rfl) dX1_readLine_83 ?_
      replace h := z_bd2 h
      obtain ⟨t3, u4, hq, h⟩ := h
      refine z_cvi (As := [.ref (sA D 20)]) C0 hml hl.1 hW hS (c_X8_takes l D A b g hs 20 (by decide) u2 hq) mv_X1_27 (zk1 (hs 3 (by decide))) ⟨Nat.le_of_ble_eq_true rfl, Nat.le_of_ble_eq_true rfl⟩ rfl rfl (Nat.le_of_ble_eq_true rfl) dX1_readLine_85 (fun H locs hW hS => ?_)
      clear hq
      refine z_ifeqZ C0 (tgt := 111) dX1_readLine_88 (by decide) (fun hc => ?_) (fun hc => ?_)
      · replace h := z_ff h hc
        clear hc
        refine lv_aload_n hx hb dX1_readLine_111 rfl (lv_at hl 0 rfl) ?_
        refine z_getr (o := 3) C0 hW fl_X1_21 (zk1 (hs 28 (by decide))) rfl (zk3 (hs 28 (by decide)) 0) dX1_readLine_112 ?_
        refine z_ldcS (k := 21) (tx := "chest") C0 (List.mem_of_getElem? (i := 21) rfl) dX1_readLine_115 ?_
        replace h := z_bd2 h
        obtain ⟨t5, u6, hq, h⟩ := h
        refine z_cvi (As := [.ref (sA D 21)]) C0 hml hl.1 hW hS (c_X8_takes l D A b g hs 21 (by decide) u4 hq) mv_X1_27 (zk1 (hs 3 (by decide))) ⟨Nat.le_of_ble_eq_true rfl, Nat.le_of_ble_eq_true rfl⟩ rfl rfl (Nat.le_of_ble_eq_true rfl) dX1_readLine_117 (fun H locs hW hS => ?_)
        clear hq
        refine z_ifeqZ C0 (tgt := 144) dX1_readLine_120 (by decide) (fun hc => ?_) (fun hc => ?_)
        · replace h := z_ff h hc
          clear hc
          refine lv_aload_n hx hb dX1_readLine_144 rfl (lv_at hl 0 rfl) ?_
          refine z_getr (o := 3) C0 hW fl_X1_21 (zk1 (hs 28 (by decide))) rfl (zk3 (hs 28 (by decide)) 0) dX1_readLine_145 ?_
          refine z_ldcS (k := 22) (tx := "reach") C0 (List.mem_of_getElem? (i := 22) rfl) dX1_readLine_148 ?_
          replace h := z_bd2 h
          obtain ⟨t7, u8, hq, h⟩ := h
          refine z_cvi (As := [.ref (sA D 22)]) C0 hml hl.1 hW hS (c_X8_takes l D A b g hs 22 (by decide) u6 hq) mv_X1_27 (zk1 (hs 3 (by decide))) ⟨Nat.le_of_ble_eq_true rfl, Nat.le_of_ble_eq_true rfl⟩ rfl rfl (Nat.le_of_ble_eq_true rfl) dX1_readLine_150 (fun H locs hW hS => ?_)
          clear hq
          refine z_ifeqZ C0 (tgt := 176) dX1_readLine_153 (by decide) (fun hc => ?_) (fun hc => ?_)
          · replace h := z_ff h hc
            clear hc
            refine lv_aload_n hx hb dX1_readLine_176 rfl (lv_at hl 0 rfl) ?_
            refine z_getr (o := 3) C0 hW fl_X1_21 (zk1 (hs 28 (by decide))) rfl (zk3 (hs 28 (by decide)) 0) dX1_readLine_177 ?_
            refine z_ldcS (k := 23) (tx := "wind") C0 (List.mem_of_getElem? (i := 23) rfl) dX1_readLine_180 ?_
            replace h := z_bd2 h
            obtain ⟨t9, u10, hq, h⟩ := h
            refine z_cvi (As := [.ref (sA D 23)]) C0 hml hl.1 hW hS (c_X8_takes l D A b g hs 23 (by decide) u8 hq) mv_X1_27 (zk1 (hs 3 (by decide))) ⟨Nat.le_of_ble_eq_true rfl, Nat.le_of_ble_eq_true rfl⟩ rfl rfl (Nat.le_of_ble_eq_true rfl) dX1_readLine_182 (fun H locs hW hS => ?_)
            clear hq
            refine z_ifeqZ C0 (tgt := 208) dX1_readLine_185 (by decide) (fun hc => ?_) (fun hc => ?_)
            · replace h := z_ff h hc
              clear hc
              refine lv_aload_n hx hb dX1_readLine_208 rfl (lv_at hl 0 rfl) ?_
              refine z_getr (o := 3) C0 hW fl_X1_21 (zk1 (hs 28 (by decide))) rfl (zk3 (hs 28 (by decide)) 0) dX1_readLine_209 ?_
              refine z_ldcS (k := 24) (tx := "top") C0 (List.mem_of_getElem? (i := 24) rfl) dX1_readLine_212 ?_
              replace h := z_bd2 h
              obtain ⟨t11, u12, hq, h⟩ := h
              refine z_cvi (As := [.ref (sA D 24)]) C0 hml hl.1 hW hS (c_X8_takes l D A b g hs 24 (by decide) u10 hq) mv_X1_27 (zk1 (hs 3 (by decide))) ⟨Nat.le_of_ble_eq_true rfl, Nat.le_of_ble_eq_true rfl⟩ rfl rfl (Nat.le_of_ble_eq_true rfl) dX1_readLine_214 (fun H locs hW hS => ?_)
              clear hq
              refine z_ifeqZ C0 (tgt := 240) dX1_readLine_217 (by decide) (fun hc => ?_) (fun hc => ?_)
              · replace h := z_ff h hc
                clear hc
                refine lv_aload_n hx hb dX1_readLine_240 rfl (lv_at hl 0 rfl) ?_
                refine z_getr (o := 3) C0 hW fl_X1_21 (zk1 (hs 28 (by decide))) rfl (zk3 (hs 28 (by decide)) 0) dX1_readLine_241 ?_
                replace h := z_bd h
                obtain ⟨u13, hq, h⟩ := h
                refine z_cvv (As := []) C0 hml hl.1 hW hS (c_X8_refuse l D A b g hs u12 hq) mv_X1_67 (zk1 (hs 3 (by decide))) ⟨Nat.le_of_ble_eq_true rfl, Nat.le_of_ble_eq_true rfl⟩ rfl rfl (Nat.le_of_ble_eq_true rfl) dX1_readLine_244 (fun H locs hW hS => ?_)
                clear hq
                cases h
                exact z_vret C0 hr hlk hW hS dX1_readLine_247
              · replace h := z_t h hc
                clear hc
                refine lv_aload_n hx hb dX1_readLine_220 rfl (lv_at hl 0 rfl) ?_
                refine z_getr (o := 17) C0 hW fl_X1_11 (zk1 (hs 28 (by decide))) rfl (zk3 (hs 28 (by decide)) 2) dX1_readLine_221 ?_
                refine lv_aload_n hx hb dX1_readLine_224 rfl (lv_at hl 0 rfl) ?_
                refine z_getr (o := 3) C0 hW fl_X1_21 (zk1 (hs 28 (by decide))) rfl (zk3 (hs 28 (by decide)) 0) dX1_readLine_225 ?_
                refine lv_iconst (v := (0 : Int32)) hx hb dX1_readLine_228 (by decide) ?_
                refine lv_bipush (v := (7 : Int32)) hx hb dX1_readLine_229 (by decide) ?_
                replace h := z_bd2 h
                obtain ⟨r14, u15, hq, h⟩ := h
                refine z_cvi (As := [.int (0 : Int32), .int (7 : Int32)]) C0 hml hl.1 hW hS (c_X8_number l D A b g hs (0 : Int32) (7 : Int32) u12 hq) mv_X1_39 (zk1 (hs 3 (by decide))) ⟨Nat.le_of_ble_eq_true rfl, Nat.le_of_ble_eq_true rfl⟩ rfl rfl (Nat.le_of_ble_eq_true rfl) dX1_readLine_231 (fun H locs hW hS => ?_)
                clear hq
                refine z_puti C0 hW hS fl_X1_65 hd.1 rfl rfl rfl dX1_readLine_234 (fun H locs u16 e1 hW hS => ?_)
                replace h := z_ly h e1
                clear e1
                refine lv_goto (tgt := 247) hx hb dX1_readLine_237 (by decide) ?_
                cases h
                exact z_vret C0 hr hlk hW hS dX1_readLine_247
            · replace h := z_t h hc
              clear hc
              refine lv_aload_n hx hb dX1_readLine_188 rfl (lv_at hl 0 rfl) ?_
              refine z_getr (o := 17) C0 hW fl_X1_11 (zk1 (hs 28 (by decide))) rfl (zk3 (hs 28 (by decide)) 2) dX1_readLine_189 ?_
              refine lv_aload_n hx hb dX1_readLine_192 rfl (lv_at hl 0 rfl) ?_
              refine z_getr (o := 3) C0 hW fl_X1_21 (zk1 (hs 28 (by decide))) rfl (zk3 (hs 28 (by decide)) 0) dX1_readLine_193 ?_
              refine lv_iconst (v := (0 : Int32)) hx hb dX1_readLine_196 (by decide) ?_
              refine lv_bipush (v := (100 : Int32)) hx hb dX1_readLine_197 (by decide) ?_
              replace h := z_bd2 h
              obtain ⟨r17, u18, hq, h⟩ := h
              refine z_cvi (As := [.int (0 : Int32), .int (100 : Int32)]) C0 hml hl.1 hW hS (c_X8_number l D A b g hs (0 : Int32) (100 : Int32) u10 hq) mv_X1_39 (zk1 (hs 3 (by decide))) ⟨Nat.le_of_ble_eq_true rfl, Nat.le_of_ble_eq_true rfl⟩ rfl rfl (Nat.le_of_ble_eq_true rfl) dX1_readLine_199 (fun H locs hW hS => ?_)
              clear hq
              refine z_puti C0 hW hS fl_X1_61 hd.1 rfl rfl rfl dX1_readLine_202 (fun H locs u19 e1 hW hS => ?_)
              replace h := z_ly h e1
              clear e1
              refine lv_goto (tgt := 247) hx hb dX1_readLine_205 (by decide) ?_
              cases h
              exact z_vret C0 hr hlk hW hS dX1_readLine_247
          · replace h := z_t h hc
            clear hc
            refine lv_aload_n hx hb dX1_readLine_156 rfl (lv_at hl 0 rfl) ?_
            refine z_getr (o := 17) C0 hW fl_X1_11 (zk1 (hs 28 (by decide))) rfl (zk3 (hs 28 (by decide)) 2) dX1_readLine_157 ?_
            refine lv_aload_n hx hb dX1_readLine_160 rfl (lv_at hl 0 rfl) ?_
            refine z_getr (o := 3) C0 hW fl_X1_21 (zk1 (hs 28 (by decide))) rfl (zk3 (hs 28 (by decide)) 0) dX1_readLine_161 ?_
            refine lv_iconst (v := (1 : Int32)) hx hb dX1_readLine_164 (by decide) ?_
            refine lv_bipush (v := (8 : Int32)) hx hb dX1_readLine_165 (by decide) ?_
            replace h := z_bd2 h
            obtain ⟨r20, u21, hq, h⟩ := h
            refine z_cvi (As := [.int (1 : Int32), .int (8 : Int32)]) C0 hml hl.1 hW hS (c_X8_number l D A b g hs (1 : Int32) (8 : Int32) u8 hq) mv_X1_39 (zk1 (hs 3 (by decide))) ⟨Nat.le_of_ble_eq_true rfl, Nat.le_of_ble_eq_true rfl⟩ rfl rfl (Nat.le_of_ble_eq_true rfl) dX1_readLine_167 (fun H locs hW hS => ?_)
            clear hq
            refine z_puti C0 hW hS fl_X1_57 hd.1 rfl rfl rfl dX1_readLine_170 (fun H locs u22 e1 hW hS => ?_)
            replace h := z_ly h e1
            clear e1
            refine lv_goto (tgt := 247) hx hb dX1_readLine_173 (by decide) ?_
            cases h
            exact z_vret C0 hr hlk hW hS dX1_readLine_247
        · replace h := z_t h hc
          clear hc
          refine lv_aload_n hx hb dX1_readLine_123 rfl (lv_at hl 0 rfl) ?_
          refine z_getr (o := 17) C0 hW fl_X1_11 (zk1 (hs 28 (by decide))) rfl (zk3 (hs 28 (by decide)) 2) dX1_readLine_124 ?_
          refine lv_aload_n hx hb dX1_readLine_127 rfl (lv_at hl 0 rfl) ?_
          refine z_getr (o := 3) C0 hW fl_X1_21 (zk1 (hs 28 (by decide))) rfl (zk3 (hs 28 (by decide)) 0) dX1_readLine_128 ?_
          refine lv_iconst (v := (0 : Int32)) hx hb dX1_readLine_131 (by decide) ?_
          refine lv_sipush (v := (999 : Int32)) hx hb dX1_readLine_132 (by decide) ?_
          replace h := z_bd2 h
          obtain ⟨r23, u24, hq, h⟩ := h
          refine z_cvi (As := [.int (0 : Int32), .int (999 : Int32)]) C0 hml hl.1 hW hS (c_X8_number l D A b g hs (0 : Int32) (999 : Int32) u6 hq) mv_X1_39 (zk1 (hs 3 (by decide))) ⟨Nat.le_of_ble_eq_true rfl, Nat.le_of_ble_eq_true rfl⟩ rfl rfl (Nat.le_of_ble_eq_true rfl) dX1_readLine_135 (fun H locs hW hS => ?_)
          clear hq
          refine z_puti C0 hW hS fl_X1_53 hd.1 rfl rfl rfl dX1_readLine_138 (fun H locs u25 e1 hW hS => ?_)
          replace h := z_ly h e1
          clear e1
          refine lv_goto (tgt := 247) hx hb dX1_readLine_141 (by decide) ?_
          cases h
          exact z_vret C0 hr hlk hW hS dX1_readLine_247
      · replace h := z_t h hc
        clear hc
        refine lv_aload_n hx hb dX1_readLine_91 rfl (lv_at hl 0 rfl) ?_
        refine z_getr (o := 17) C0 hW fl_X1_11 (zk1 (hs 28 (by decide))) rfl (zk3 (hs 28 (by decide)) 2) dX1_readLine_92 ?_
        refine lv_aload_n hx hb dX1_readLine_95 rfl (lv_at hl 0 rfl) ?_
        refine z_getr (o := 3) C0 hW fl_X1_21 (zk1 (hs 28 (by decide))) rfl (zk3 (hs 28 (by decide)) 0) dX1_readLine_96 ?_
        refine lv_iconst (v := (0 : Int32)) hx hb dX1_readLine_99 (by decide) ?_
        refine lv_bipush (v := (99 : Int32)) hx hb dX1_readLine_100 (by decide) ?_
        replace h := z_bd2 h
        obtain ⟨r26, u27, hq, h⟩ := h
        refine z_cvi (As := [.int (0 : Int32), .int (99 : Int32)]) C0 hml hl.1 hW hS (c_X8_number l D A b g hs (0 : Int32) (99 : Int32) u4 hq) mv_X1_39 (zk1 (hs 3 (by decide))) ⟨Nat.le_of_ble_eq_true rfl, Nat.le_of_ble_eq_true rfl⟩ rfl rfl (Nat.le_of_ble_eq_true rfl) dX1_readLine_102 (fun H locs hW hS => ?_)
        clear hq
        refine z_puti C0 hW hS fl_X1_48 hd.1 rfl rfl rfl dX1_readLine_105 (fun H locs u28 e1 hW hS => ?_)
        replace h := z_ly h e1
        clear e1
        refine lv_goto (tgt := 247) hx hb dX1_readLine_108 (by decide) ?_
        cases h
        exact z_vret C0 hr hlk hW hS dX1_readLine_247
    · replace h := z_t h hc
      clear hc
      refine lv_aload_n hx hb dX1_readLine_43 rfl (lv_at hl 0 rfl) ?_
      refine z_getr (o := 3) C0 hW fl_X1_21 (zk1 (hs 28 (by decide))) rfl (zk3 (hs 28 (by decide)) 0) dX1_readLine_44 ?_
      refine lv_iconst (v := (0 : Int32)) hx hb dX1_readLine_47 (by decide) ?_
      refine lv_bipush (v := (7 : Int32)) hx hb dX1_readLine_48 (by decide) ?_
      replace h := z_bd2 h
      obtain ⟨r29, u30, hq, h⟩ := h
      refine z_cvi (As := [.int (0 : Int32), .int (7 : Int32)]) C0 hml hl.1 hW hS (c_X8_number l D A b g hs (0 : Int32) (7 : Int32) u2 hq) mv_X1_39 (zk1 (hs 3 (by decide))) ⟨Nat.le_of_ble_eq_true rfl, Nat.le_of_ble_eq_true rfl⟩ rfl rfl (Nat.le_of_ble_eq_true rfl) dX1_readLine_50 (fun H locs hW hS => ?_)
      clear hq
      refine lv_istore_n (lv' := [(1, .int r29), (0, .ref (b + 28))]) hx hb dX1_readLine_53 rfl hl (by decide) rfl (fun ls hl => ?_)
      refine lv_aload_n hx hb dX1_readLine_54 rfl (lv_at hl 1 rfl) ?_
      refine z_getr (o := 17) C0 hW fl_X1_11 (zk1 (hs 28 (by decide))) rfl (zk3 (hs 28 (by decide)) 2) dX1_readLine_55 ?_
      refine z_getr (o := 23) C0 hW fl_X1_43 hd.1 rfl (hd.2.1 5 (by decide)).1 dX1_readLine_58 ?_
      refine lv_iload_n hx hb dX1_readLine_61 rfl (lv_at hl 0 rfl) ?_
      refine lv_bipush (v := (7 : Int32)) hx hb dX1_readLine_62 (by decide) ?_
      refine lv_iand hx hb dX1_readLine_64 ?_
      refine lv_aload_n hx hb dX1_readLine_65 rfl (lv_at hl 1 rfl) ?_
      refine z_getr (o := 3) C0 hW fl_X1_21 (zk1 (hs 28 (by decide))) rfl (zk3 (hs 28 (by decide)) 0) dX1_readLine_66 ?_
      refine lv_iconst (v := (0 : Int32)) hx hb dX1_readLine_69 (by decide) ?_
      refine lv_bipush (v := (9 : Int32)) hx hb dX1_readLine_70 (by decide) ?_
      replace h := z_bd2 h
      obtain ⟨r31, u32, hq, h⟩ := h
      refine z_cvi (As := [.int (0 : Int32), .int (9 : Int32)]) C0 hml hl.1 hW hS (c_X8_number l D A b g hs (0 : Int32) (9 : Int32) u30 hq) mv_X1_39 (zk1 (hs 3 (by decide))) ⟨Nat.le_of_ble_eq_true rfl, Nat.le_of_ble_eq_true rfl⟩ rfl rfl (Nat.le_of_ble_eq_true rfl) dX1_readLine_72 (fun H locs hW hS => ?_)
      clear hq
      replace h := z_if h
      obtain ⟨hin, h⟩ := h
      refine z_iast (n := 8) C0 hW hS (hd.2.1 5 (by decide)).2.1 (hd.2.1 5 (by decide)).2.2 hin rfl dX1_readLine_75 (fun H locs u33 e1 hW hS => ?_)
      replace h := z_ly h e1
      clear e1
      refine lv_goto (tgt := 247) hx hb dX1_readLine_76 (by decide) ?_
      cases h
      exact z_vret C0 hr hlk hW hS dX1_readLine_247
  · replace h := z_f h hc
    clear hc
    refine lv_aload_n hx hb dX1_readLine_12 rfl (lv_at hl 0 rfl) ?_
    refine z_getr (o := 3) C0 hW fl_X1_21 (zk1 (hs 28 (by decide))) rfl (zk3 (hs 28 (by decide)) 0) dX1_readLine_13 ?_
    refine z_ldcS (k := 18) (tx := "rider") C0 (List.mem_of_getElem? (i := 18) rfl) dX1_readLine_16 ?_
    replace h := z_bd2 h
    obtain ⟨t34, u35, hq, h⟩ := h
    refine z_cvi (As := [.ref (sA D 18)]) C0 hml hl.1 hW hS (c_X8_takes l D A b g hs 18 (by decide) u hq) mv_X1_27 (zk1 (hs 3 (by decide))) ⟨Nat.le_of_ble_eq_true rfl, Nat.le_of_ble_eq_true rfl⟩ rfl rfl (Nat.le_of_ble_eq_true rfl) dX1_readLine_18 (fun H locs hW hS => ?_)
    clear hq
    refine z_ifeqZ C0 (tgt := 31) dX1_readLine_21 (by decide) (fun hc => ?_) (fun hc => ?_)
    · replace h := z_ff h hc
      clear hc
      refine lv_aload_n hx hb dX1_readLine_31 rfl (lv_at hl 0 rfl) ?_
      refine z_getr (o := 3) C0 hW fl_X1_21 (zk1 (hs 28 (by decide))) rfl (zk3 (hs 28 (by decide)) 0) dX1_readLine_32 ?_
      refine z_ldcS (k := 19) (tx := "bolts") C0 (List.mem_of_getElem? (i := 19) rfl) dX1_readLine_35 ?_
      replace h := z_bd2 h
      obtain ⟨t36, u37, hq, h⟩ := h
      refine z_cvi (As := [.ref (sA D 19)]) C0 hml hl.1 hW hS (c_X8_takes l D A b g hs 19 (by decide) u35 hq) mv_X1_27 (zk1 (hs 3 (by decide))) ⟨Nat.le_of_ble_eq_true rfl, Nat.le_of_ble_eq_true rfl⟩ rfl rfl (Nat.le_of_ble_eq_true rfl) dX1_readLine_37 (fun H locs hW hS => ?_)
      clear hq
      refine z_ifeqZ C0 (tgt := 79) dX1_readLine_40 (by decide) (fun hc => ?_) (fun hc => ?_)
      · replace h := z_ff h hc
        clear hc
        refine lv_aload_n hx hb dX1_readLine_79 rfl (lv_at hl 0 rfl) ?_
        refine z_getr (o := 3) C0 hW fl_X1_21 (zk1 (hs 28 (by decide))) rfl (zk3 (hs 28 (by decide)) 0) dX1_readLine_80 ?_
        refine z_ldcS (k := 20) (tx := "fare") C0 (List.mem_of_getElem? (i := 20) rfl) dX1_readLine_83 ?_
        replace h := z_bd2 h
        obtain ⟨t38, u39, hq, h⟩ := h
        refine z_cvi (As := [.ref (sA D 20)]) C0 hml hl.1 hW hS (c_X8_takes l D A b g hs 20 (by decide) u37 hq) mv_X1_27 (zk1 (hs 3 (by decide))) ⟨Nat.le_of_ble_eq_true rfl, Nat.le_of_ble_eq_true rfl⟩ rfl rfl (Nat.le_of_ble_eq_true rfl) dX1_readLine_85 (fun H locs hW hS => ?_)
        clear hq
        refine z_ifeqZ C0 (tgt := 111) dX1_readLine_88 (by decide) (fun hc => ?_) (fun hc => ?_)
        · replace h := z_ff h hc
          clear hc
          refine lv_aload_n hx hb dX1_readLine_111 rfl (lv_at hl 0 rfl) ?_
          refine z_getr (o := 3) C0 hW fl_X1_21 (zk1 (hs 28 (by decide))) rfl (zk3 (hs 28 (by decide)) 0) dX1_readLine_112 ?_
          refine z_ldcS (k := 21) (tx := "chest") C0 (List.mem_of_getElem? (i := 21) rfl) dX1_readLine_115 ?_
          replace h := z_bd2 h
          obtain ⟨t40, u41, hq, h⟩ := h
          refine z_cvi (As := [.ref (sA D 21)]) C0 hml hl.1 hW hS (c_X8_takes l D A b g hs 21 (by decide) u39 hq) mv_X1_27 (zk1 (hs 3 (by decide))) ⟨Nat.le_of_ble_eq_true rfl, Nat.le_of_ble_eq_true rfl⟩ rfl rfl (Nat.le_of_ble_eq_true rfl) dX1_readLine_117 (fun H locs hW hS => ?_)
          clear hq
          refine z_ifeqZ C0 (tgt := 144) dX1_readLine_120 (by decide) (fun hc => ?_) (fun hc => ?_)
          · replace h := z_ff h hc
            clear hc
            refine lv_aload_n hx hb dX1_readLine_144 rfl (lv_at hl 0 rfl) ?_
            refine z_getr (o := 3) C0 hW fl_X1_21 (zk1 (hs 28 (by decide))) rfl (zk3 (hs 28 (by decide)) 0) dX1_readLine_145 ?_
            refine z_ldcS (k := 22) (tx := "reach") C0 (List.mem_of_getElem? (i := 22) rfl) dX1_readLine_148 ?_
            replace h := z_bd2 h
            obtain ⟨t42, u43, hq, h⟩ := h
            refine z_cvi (As := [.ref (sA D 22)]) C0 hml hl.1 hW hS (c_X8_takes l D A b g hs 22 (by decide) u41 hq) mv_X1_27 (zk1 (hs 3 (by decide))) ⟨Nat.le_of_ble_eq_true rfl, Nat.le_of_ble_eq_true rfl⟩ rfl rfl (Nat.le_of_ble_eq_true rfl) dX1_readLine_150 (fun H locs hW hS => ?_)
            clear hq
            refine z_ifeqZ C0 (tgt := 176) dX1_readLine_153 (by decide) (fun hc => ?_) (fun hc => ?_)
            · replace h := z_ff h hc
              clear hc
              refine lv_aload_n hx hb dX1_readLine_176 rfl (lv_at hl 0 rfl) ?_
              refine z_getr (o := 3) C0 hW fl_X1_21 (zk1 (hs 28 (by decide))) rfl (zk3 (hs 28 (by decide)) 0) dX1_readLine_177 ?_
              refine z_ldcS (k := 23) (tx := "wind") C0 (List.mem_of_getElem? (i := 23) rfl) dX1_readLine_180 ?_
              replace h := z_bd2 h
              obtain ⟨t44, u45, hq, h⟩ := h
              refine z_cvi (As := [.ref (sA D 23)]) C0 hml hl.1 hW hS (c_X8_takes l D A b g hs 23 (by decide) u43 hq) mv_X1_27 (zk1 (hs 3 (by decide))) ⟨Nat.le_of_ble_eq_true rfl, Nat.le_of_ble_eq_true rfl⟩ rfl rfl (Nat.le_of_ble_eq_true rfl) dX1_readLine_182 (fun H locs hW hS => ?_)
              clear hq
              refine z_ifeqZ C0 (tgt := 208) dX1_readLine_185 (by decide) (fun hc => ?_) (fun hc => ?_)
              · replace h := z_ff h hc
                clear hc
                refine lv_aload_n hx hb dX1_readLine_208 rfl (lv_at hl 0 rfl) ?_
                refine z_getr (o := 3) C0 hW fl_X1_21 (zk1 (hs 28 (by decide))) rfl (zk3 (hs 28 (by decide)) 0) dX1_readLine_209 ?_
                refine z_ldcS (k := 24) (tx := "top") C0 (List.mem_of_getElem? (i := 24) rfl) dX1_readLine_212 ?_
                replace h := z_bd2 h
                obtain ⟨t46, u47, hq, h⟩ := h
                refine z_cvi (As := [.ref (sA D 24)]) C0 hml hl.1 hW hS (c_X8_takes l D A b g hs 24 (by decide) u45 hq) mv_X1_27 (zk1 (hs 3 (by decide))) ⟨Nat.le_of_ble_eq_true rfl, Nat.le_of_ble_eq_true rfl⟩ rfl rfl (Nat.le_of_ble_eq_true rfl) dX1_readLine_214 (fun H locs hW hS => ?_)
                clear hq
                refine z_ifeqZ C0 (tgt := 240) dX1_readLine_217 (by decide) (fun hc => ?_) (fun hc => ?_)
                · replace h := z_ff h hc
                  clear hc
                  refine lv_aload_n hx hb dX1_readLine_240 rfl (lv_at hl 0 rfl) ?_
                  refine z_getr (o := 3) C0 hW fl_X1_21 (zk1 (hs 28 (by decide))) rfl (zk3 (hs 28 (by decide)) 0) dX1_readLine_241 ?_
                  replace h := z_bd h
                  obtain ⟨u48, hq, h⟩ := h
                  refine z_cvv (As := []) C0 hml hl.1 hW hS (c_X8_refuse l D A b g hs u47 hq) mv_X1_67 (zk1 (hs 3 (by decide))) ⟨Nat.le_of_ble_eq_true rfl, Nat.le_of_ble_eq_true rfl⟩ rfl rfl (Nat.le_of_ble_eq_true rfl) dX1_readLine_244 (fun H locs hW hS => ?_)
                  clear hq
                  cases h
                  exact z_vret C0 hr hlk hW hS dX1_readLine_247
                · replace h := z_t h hc
                  clear hc
                  refine lv_aload_n hx hb dX1_readLine_220 rfl (lv_at hl 0 rfl) ?_
                  refine z_getr (o := 17) C0 hW fl_X1_11 (zk1 (hs 28 (by decide))) rfl (zk3 (hs 28 (by decide)) 2) dX1_readLine_221 ?_
                  refine lv_aload_n hx hb dX1_readLine_224 rfl (lv_at hl 0 rfl) ?_
                  refine z_getr (o := 3) C0 hW fl_X1_21 (zk1 (hs 28 (by decide))) rfl (zk3 (hs 28 (by decide)) 0) dX1_readLine_225 ?_
                  refine lv_iconst (v := (0 : Int32)) hx hb dX1_readLine_228 (by decide) ?_
                  refine lv_bipush (v := (7 : Int32)) hx hb dX1_readLine_229 (by decide) ?_
                  replace h := z_bd2 h
                  obtain ⟨r49, u50, hq, h⟩ := h
                  refine z_cvi (As := [.int (0 : Int32), .int (7 : Int32)]) C0 hml hl.1 hW hS (c_X8_number l D A b g hs (0 : Int32) (7 : Int32) u47 hq) mv_X1_39 (zk1 (hs 3 (by decide))) ⟨Nat.le_of_ble_eq_true rfl, Nat.le_of_ble_eq_true rfl⟩ rfl rfl (Nat.le_of_ble_eq_true rfl) dX1_readLine_231 (fun H locs hW hS => ?_)
                  clear hq
                  refine z_puti C0 hW hS fl_X1_65 hd.1 rfl rfl rfl dX1_readLine_234 (fun H locs u51 e1 hW hS => ?_)
                  replace h := z_ly h e1
                  clear e1
                  refine lv_goto (tgt := 247) hx hb dX1_readLine_237 (by decide) ?_
                  cases h
                  exact z_vret C0 hr hlk hW hS dX1_readLine_247
              · replace h := z_t h hc
                clear hc
                refine lv_aload_n hx hb dX1_readLine_188 rfl (lv_at hl 0 rfl) ?_
                refine z_getr (o := 17) C0 hW fl_X1_11 (zk1 (hs 28 (by decide))) rfl (zk3 (hs 28 (by decide)) 2) dX1_readLine_189 ?_
                refine lv_aload_n hx hb dX1_readLine_192 rfl (lv_at hl 0 rfl) ?_
                refine z_getr (o := 3) C0 hW fl_X1_21 (zk1 (hs 28 (by decide))) rfl (zk3 (hs 28 (by decide)) 0) dX1_readLine_193 ?_
                refine lv_iconst (v := (0 : Int32)) hx hb dX1_readLine_196 (by decide) ?_
                refine lv_bipush (v := (100 : Int32)) hx hb dX1_readLine_197 (by decide) ?_
                replace h := z_bd2 h
                obtain ⟨r52, u53, hq, h⟩ := h
                refine z_cvi (As := [.int (0 : Int32), .int (100 : Int32)]) C0 hml hl.1 hW hS (c_X8_number l D A b g hs (0 : Int32) (100 : Int32) u45 hq) mv_X1_39 (zk1 (hs 3 (by decide))) ⟨Nat.le_of_ble_eq_true rfl, Nat.le_of_ble_eq_true rfl⟩ rfl rfl (Nat.le_of_ble_eq_true rfl) dX1_readLine_199 (fun H locs hW hS => ?_)
                clear hq
                refine z_puti C0 hW hS fl_X1_61 hd.1 rfl rfl rfl dX1_readLine_202 (fun H locs u54 e1 hW hS => ?_)
                replace h := z_ly h e1
                clear e1
                refine lv_goto (tgt := 247) hx hb dX1_readLine_205 (by decide) ?_
                cases h
                exact z_vret C0 hr hlk hW hS dX1_readLine_247
            · replace h := z_t h hc
              clear hc
              refine lv_aload_n hx hb dX1_readLine_156 rfl (lv_at hl 0 rfl) ?_
              refine z_getr (o := 17) C0 hW fl_X1_11 (zk1 (hs 28 (by decide))) rfl (zk3 (hs 28 (by decide)) 2) dX1_readLine_157 ?_
              refine lv_aload_n hx hb dX1_readLine_160 rfl (lv_at hl 0 rfl) ?_
              refine z_getr (o := 3) C0 hW fl_X1_21 (zk1 (hs 28 (by decide))) rfl (zk3 (hs 28 (by decide)) 0) dX1_readLine_161 ?_
              refine lv_iconst (v := (1 : Int32)) hx hb dX1_readLine_164 (by decide) ?_
              refine lv_bipush (v := (8 : Int32)) hx hb dX1_readLine_165 (by decide) ?_
              replace h := z_bd2 h
              obtain ⟨r55, u56, hq, h⟩ := h
              refine z_cvi (As := [.int (1 : Int32), .int (8 : Int32)]) C0 hml hl.1 hW hS (c_X8_number l D A b g hs (1 : Int32) (8 : Int32) u43 hq) mv_X1_39 (zk1 (hs 3 (by decide))) ⟨Nat.le_of_ble_eq_true rfl, Nat.le_of_ble_eq_true rfl⟩ rfl rfl (Nat.le_of_ble_eq_true rfl) dX1_readLine_167 (fun H locs hW hS => ?_)
              clear hq
              refine z_puti C0 hW hS fl_X1_57 hd.1 rfl rfl rfl dX1_readLine_170 (fun H locs u57 e1 hW hS => ?_)
              replace h := z_ly h e1
              clear e1
              refine lv_goto (tgt := 247) hx hb dX1_readLine_173 (by decide) ?_
              cases h
              exact z_vret C0 hr hlk hW hS dX1_readLine_247
          · replace h := z_t h hc
            clear hc
            refine lv_aload_n hx hb dX1_readLine_123 rfl (lv_at hl 0 rfl) ?_
            refine z_getr (o := 17) C0 hW fl_X1_11 (zk1 (hs 28 (by decide))) rfl (zk3 (hs 28 (by decide)) 2) dX1_readLine_124 ?_
            refine lv_aload_n hx hb dX1_readLine_127 rfl (lv_at hl 0 rfl) ?_
            refine z_getr (o := 3) C0 hW fl_X1_21 (zk1 (hs 28 (by decide))) rfl (zk3 (hs 28 (by decide)) 0) dX1_readLine_128 ?_
            refine lv_iconst (v := (0 : Int32)) hx hb dX1_readLine_131 (by decide) ?_
            refine lv_sipush (v := (999 : Int32)) hx hb dX1_readLine_132 (by decide) ?_
            replace h := z_bd2 h
            obtain ⟨r58, u59, hq, h⟩ := h
            refine z_cvi (As := [.int (0 : Int32), .int (999 : Int32)]) C0 hml hl.1 hW hS (c_X8_number l D A b g hs (0 : Int32) (999 : Int32) u41 hq) mv_X1_39 (zk1 (hs 3 (by decide))) ⟨Nat.le_of_ble_eq_true rfl, Nat.le_of_ble_eq_true rfl⟩ rfl rfl (Nat.le_of_ble_eq_true rfl) dX1_readLine_135 (fun H locs hW hS => ?_)
            clear hq
            refine z_puti C0 hW hS fl_X1_53 hd.1 rfl rfl rfl dX1_readLine_138 (fun H locs u60 e1 hW hS => ?_)
            replace h := z_ly h e1
            clear e1
            refine lv_goto (tgt := 247) hx hb dX1_readLine_141 (by decide) ?_
            cases h
            exact z_vret C0 hr hlk hW hS dX1_readLine_247
        · replace h := z_t h hc
          clear hc
          refine lv_aload_n hx hb dX1_readLine_91 rfl (lv_at hl 0 rfl) ?_
          refine z_getr (o := 17) C0 hW fl_X1_11 (zk1 (hs 28 (by decide))) rfl (zk3 (hs 28 (by decide)) 2) dX1_readLine_92 ?_
          refine lv_aload_n hx hb dX1_readLine_95 rfl (lv_at hl 0 rfl) ?_
          refine z_getr (o := 3) C0 hW fl_X1_21 (zk1 (hs 28 (by decide))) rfl (zk3 (hs 28 (by decide)) 0) dX1_readLine_96 ?_
          refine lv_iconst (v := (0 : Int32)) hx hb dX1_readLine_99 (by decide) ?_
          refine lv_bipush (v := (99 : Int32)) hx hb dX1_readLine_100 (by decide) ?_
          replace h := z_bd2 h
          obtain ⟨r61, u62, hq, h⟩ := h
          refine z_cvi (As := [.int (0 : Int32), .int (99 : Int32)]) C0 hml hl.1 hW hS (c_X8_number l D A b g hs (0 : Int32) (99 : Int32) u39 hq) mv_X1_39 (zk1 (hs 3 (by decide))) ⟨Nat.le_of_ble_eq_true rfl, Nat.le_of_ble_eq_true rfl⟩ rfl rfl (Nat.le_of_ble_eq_true rfl) dX1_readLine_102 (fun H locs hW hS => ?_)
          clear hq
          refine z_puti C0 hW hS fl_X1_48 hd.1 rfl rfl rfl dX1_readLine_105 (fun H locs u63 e1 hW hS => ?_)
          replace h := z_ly h e1
          clear e1
          refine lv_goto (tgt := 247) hx hb dX1_readLine_108 (by decide) ?_
          cases h
          exact z_vret C0 hr hlk hW hS dX1_readLine_247
      · replace h := z_t h hc
        clear hc
        refine lv_aload_n hx hb dX1_readLine_43 rfl (lv_at hl 0 rfl) ?_
        refine z_getr (o := 3) C0 hW fl_X1_21 (zk1 (hs 28 (by decide))) rfl (zk3 (hs 28 (by decide)) 0) dX1_readLine_44 ?_
        refine lv_iconst (v := (0 : Int32)) hx hb dX1_readLine_47 (by decide) ?_
        refine lv_bipush (v := (7 : Int32)) hx hb dX1_readLine_48 (by decide) ?_
        replace h := z_bd2 h
        obtain ⟨r64, u65, hq, h⟩ := h
        refine z_cvi (As := [.int (0 : Int32), .int (7 : Int32)]) C0 hml hl.1 hW hS (c_X8_number l D A b g hs (0 : Int32) (7 : Int32) u37 hq) mv_X1_39 (zk1 (hs 3 (by decide))) ⟨Nat.le_of_ble_eq_true rfl, Nat.le_of_ble_eq_true rfl⟩ rfl rfl (Nat.le_of_ble_eq_true rfl) dX1_readLine_50 (fun H locs hW hS => ?_)
        clear hq
        refine lv_istore_n (lv' := [(1, .int r64), (0, .ref (b + 28))]) hx hb dX1_readLine_53 rfl hl (by decide) rfl (fun ls hl => ?_)
        refine lv_aload_n hx hb dX1_readLine_54 rfl (lv_at hl 1 rfl) ?_
        refine z_getr (o := 17) C0 hW fl_X1_11 (zk1 (hs 28 (by decide))) rfl (zk3 (hs 28 (by decide)) 2) dX1_readLine_55 ?_
        refine z_getr (o := 23) C0 hW fl_X1_43 hd.1 rfl (hd.2.1 5 (by decide)).1 dX1_readLine_58 ?_
        refine lv_iload_n hx hb dX1_readLine_61 rfl (lv_at hl 0 rfl) ?_
        refine lv_bipush (v := (7 : Int32)) hx hb dX1_readLine_62 (by decide) ?_
        refine lv_iand hx hb dX1_readLine_64 ?_
        refine lv_aload_n hx hb dX1_readLine_65 rfl (lv_at hl 1 rfl) ?_
        refine z_getr (o := 3) C0 hW fl_X1_21 (zk1 (hs 28 (by decide))) rfl (zk3 (hs 28 (by decide)) 0) dX1_readLine_66 ?_
        refine lv_iconst (v := (0 : Int32)) hx hb dX1_readLine_69 (by decide) ?_
        refine lv_bipush (v := (9 : Int32)) hx hb dX1_readLine_70 (by decide) ?_
        replace h := z_bd2 h
        obtain ⟨r66, u67, hq, h⟩ := h
        refine z_cvi (As := [.int (0 : Int32), .int (9 : Int32)]) C0 hml hl.1 hW hS (c_X8_number l D A b g hs (0 : Int32) (9 : Int32) u65 hq) mv_X1_39 (zk1 (hs 3 (by decide))) ⟨Nat.le_of_ble_eq_true rfl, Nat.le_of_ble_eq_true rfl⟩ rfl rfl (Nat.le_of_ble_eq_true rfl) dX1_readLine_72 (fun H locs hW hS => ?_)
        clear hq
        replace h := z_if h
        obtain ⟨hin, h⟩ := h
        refine z_iast (n := 8) C0 hW hS (hd.2.1 5 (by decide)).2.1 (hd.2.1 5 (by decide)).2.2 hin rfl dX1_readLine_75 (fun H locs u68 e1 hW hS => ?_)
        replace h := z_ly h e1
        clear e1
        refine lv_goto (tgt := 247) hx hb dX1_readLine_76 (by decide) ?_
        cases h
        exact z_vret C0 hr hlk hW hS dX1_readLine_247
    · replace h := z_t h hc
      clear hc
      refine lv_aload_n hx hb dX1_readLine_24 rfl (lv_at hl 0 rfl) ?_
      replace h := z_bd h
      obtain ⟨u69, hq, h⟩ := h
      refine z_cvv (As := []) C0 hml hl.1 hW hS (c_X1_readRider l D A b g L hs hd u35 hq) mv_X1_33 (zk1 (hs 28 (by decide))) ⟨Nat.le_of_ble_eq_true rfl, Nat.le_of_ble_eq_true rfl⟩ rfl rfl (Nat.le_of_ble_eq_true rfl) dX1_readLine_25 (fun H locs hW hS => ?_)
      clear hq
      refine lv_goto (tgt := 247) hx hb dX1_readLine_28 (by decide) ?_
      cases h
      exact z_vret C0 hr hlk hW hS dX1_readLine_247
def f_X9_halt (w : Nat) (L : Nat → Nat) (a1 : Int32) (a2 : Bool) (u : zU) : Option (zU) :=
  if (u w 12) ≤ 0 then (z_b2 (f_X9_goesFarther w L u) (fun r1 u2 => z_let (z_up u2 w 14 ((((u w 14) + r1) + (1 : Int32)) &&& (7 : Int32))) (fun u3 => (f_X9_firstIn w L (u3 w 14) u3).bind (fun r4 => z_let (z_up u3 w 17 r4) (fun u5 => if (u5 w 17) = (-1 : Int32) then (z_let (((u5 w 14) + (4 : Int32)) &&& (7 : Int32)) (fun z6 => z_b2 (f_X9_collect w L z6 u5) (fun r7 u8 => z_let (z_up u8 w 18 r7) (fun u9 => (f_X9_fill w L z6 u9).bind (fun u10 => if a2 = true then ((f_X9_blow w L u10).bind (fun u13 => z_let (z_min (9999 : Int32) ((u13 w 15) + (1 : Int32))) (fun z14 => z_let (z_up u13 w 15 z14) (fun u15 => some u15)))) else (z_let (z_min (9999 : Int32) ((u10 w 15) + (1 : Int32))) (fun z11 => z_let (z_up u10 w 15 z11) (fun u12 => some u12)))))))) else (if z_in (u5 w 17) 8 = true then (z_let (u5 (w + 4) (u5 w 17).toNatClampNeg) (fun z16 => z_let (z16 &&& (3 : Int32)) (fun z17 => if z_in z17 4 = true then (z_let (u5 (w + 7) (z17).toNatClampNeg) (fun z18 => if z_in z17 4 = true then (z_let (z_up u5 (w + 7) (z17).toNatClampNeg (z18 + (1 : Int32))) (fun u19 => z_let (((u19 w 14) + (4 : Int32)) &&& (7 : Int32)) (fun z20 => z_b2 (f_X9_collect w L z20 u19) (fun r21 u22 => z_let (z_up u22 w 18 r21) (fun u23 => (f_X9_fill w L z20 u23).bind (fun u24 => if a2 = true then ((f_X9_blow w L u24).bind (fun u27 => z_let (z_min (9999 : Int32) ((u27 w 15) + (1 : Int32))) (fun z28 => z_let (z_up u27 w 15 z28) (fun u29 => some u29)))) else (z_let (z_min (9999 : Int32) ((u24 w 15) + (1 : Int32))) (fun z25 => z_let (z_up u24 w 15 z25) (fun u26 => some u26))))))))) else none)) else none))) else none)))))) else (if ¬ (u w 12) = 0 then (z_let ((z_rem a1 (u w 12)) + (1 : Int32)) (fun z30 => z_b2 (f_X9_goesFarther w L u) (fun r31 u32 => z_let (z_up u32 w 14 ((((u w 14) + r31) + z30) &&& (7 : Int32))) (fun u33 => (f_X9_firstIn w L (u33 w 14) u33).bind (fun r34 => z_let (z_up u33 w 17 r34) (fun u35 => if (u35 w 17) = (-1 : Int32) then (z_let (((u35 w 14) + (4 : Int32)) &&& (7 : Int32)) (fun z36 => z_b2 (f_X9_collect w L z36 u35) (fun r37 u38 => z_let (z_up u38 w 18 r37) (fun u39 => (f_X9_fill w L z36 u39).bind (fun u40 => if a2 = true then ((f_X9_blow w L u40).bind (fun u43 => z_let (z_min (9999 : Int32) ((u43 w 15) + (1 : Int32))) (fun z44 => z_let (z_up u43 w 15 z44) (fun u45 => some u45)))) else (z_let (z_min (9999 : Int32) ((u40 w 15) + (1 : Int32))) (fun z41 => z_let (z_up u40 w 15 z41) (fun u42 => some u42)))))))) else (if z_in (u35 w 17) 8 = true then (z_let (u35 (w + 4) (u35 w 17).toNatClampNeg) (fun z46 => z_let (z46 &&& (3 : Int32)) (fun z47 => if z_in z47 4 = true then (z_let (u35 (w + 7) (z47).toNatClampNeg) (fun z48 => if z_in z47 4 = true then (z_let (z_up u35 (w + 7) (z47).toNatClampNeg (z48 + (1 : Int32))) (fun u49 => z_let (((u49 w 14) + (4 : Int32)) &&& (7 : Int32)) (fun z50 => z_b2 (f_X9_collect w L z50 u49) (fun r51 u52 => z_let (z_up u52 w 18 r51) (fun u53 => (f_X9_fill w L z50 u53).bind (fun u54 => if a2 = true then ((f_X9_blow w L u54).bind (fun u57 => z_let (z_min (9999 : Int32) ((u57 w 15) + (1 : Int32))) (fun z58 => z_let (z_up u57 w 15 z58) (fun u59 => some u59)))) else (z_let (z_min (9999 : Int32) ((u54 w 15) + (1 : Int32))) (fun z55 => z_let (z_up u54 w 15 z55) (fun u56 => some u56))))))))) else none)) else none))) else none))))))) else none)
theorem f_X9_halt_e (w : Nat) (L : Nat → Nat) (a1 : Int32) (a2 : Bool) (u : zU) : f_X9_halt w L a1 a2 u = if (u w 12) ≤ 0 then (z_b2 (f_X9_goesFarther w L u) (fun r1 u2 => z_let (z_up u2 w 14 ((((u w 14) + r1) + (1 : Int32)) &&& (7 : Int32))) (fun u3 => (f_X9_firstIn w L (u3 w 14) u3).bind (fun r4 => z_let (z_up u3 w 17 r4) (fun u5 => if (u5 w 17) = (-1 : Int32) then (z_let (((u5 w 14) + (4 : Int32)) &&& (7 : Int32)) (fun z6 => z_b2 (f_X9_collect w L z6 u5) (fun r7 u8 => z_let (z_up u8 w 18 r7) (fun u9 => (f_X9_fill w L z6 u9).bind (fun u10 => if a2 = true then ((f_X9_blow w L u10).bind (fun u13 => z_let (z_min (9999 : Int32) ((u13 w 15) + (1 : Int32))) (fun z14 => z_let (z_up u13 w 15 z14) (fun u15 => some u15)))) else (z_let (z_min (9999 : Int32) ((u10 w 15) + (1 : Int32))) (fun z11 => z_let (z_up u10 w 15 z11) (fun u12 => some u12)))))))) else (if z_in (u5 w 17) 8 = true then (z_let (u5 (w + 4) (u5 w 17).toNatClampNeg) (fun z16 => z_let (z16 &&& (3 : Int32)) (fun z17 => if z_in z17 4 = true then (z_let (u5 (w + 7) (z17).toNatClampNeg) (fun z18 => if z_in z17 4 = true then (z_let (z_up u5 (w + 7) (z17).toNatClampNeg (z18 + (1 : Int32))) (fun u19 => z_let (((u19 w 14) + (4 : Int32)) &&& (7 : Int32)) (fun z20 => z_b2 (f_X9_collect w L z20 u19) (fun r21 u22 => z_let (z_up u22 w 18 r21) (fun u23 => (f_X9_fill w L z20 u23).bind (fun u24 => if a2 = true then ((f_X9_blow w L u24).bind (fun u27 => z_let (z_min (9999 : Int32) ((u27 w 15) + (1 : Int32))) (fun z28 => z_let (z_up u27 w 15 z28) (fun u29 => some u29)))) else (z_let (z_min (9999 : Int32) ((u24 w 15) + (1 : Int32))) (fun z25 => z_let (z_up u24 w 15 z25) (fun u26 => some u26))))))))) else none)) else none))) else none)))))) else (if ¬ (u w 12) = 0 then (z_let ((z_rem a1 (u w 12)) + (1 : Int32)) (fun z30 => z_b2 (f_X9_goesFarther w L u) (fun r31 u32 => z_let (z_up u32 w 14 ((((u w 14) + r31) + z30) &&& (7 : Int32))) (fun u33 => (f_X9_firstIn w L (u33 w 14) u33).bind (fun r34 => z_let (z_up u33 w 17 r34) (fun u35 => if (u35 w 17) = (-1 : Int32) then (z_let (((u35 w 14) + (4 : Int32)) &&& (7 : Int32)) (fun z36 => z_b2 (f_X9_collect w L z36 u35) (fun r37 u38 => z_let (z_up u38 w 18 r37) (fun u39 => (f_X9_fill w L z36 u39).bind (fun u40 => if a2 = true then ((f_X9_blow w L u40).bind (fun u43 => z_let (z_min (9999 : Int32) ((u43 w 15) + (1 : Int32))) (fun z44 => z_let (z_up u43 w 15 z44) (fun u45 => some u45)))) else (z_let (z_min (9999 : Int32) ((u40 w 15) + (1 : Int32))) (fun z41 => z_let (z_up u40 w 15 z41) (fun u42 => some u42)))))))) else (if z_in (u35 w 17) 8 = true then (z_let (u35 (w + 4) (u35 w 17).toNatClampNeg) (fun z46 => z_let (z46 &&& (3 : Int32)) (fun z47 => if z_in z47 4 = true then (z_let (u35 (w + 7) (z47).toNatClampNeg) (fun z48 => if z_in z47 4 = true then (z_let (z_up u35 (w + 7) (z47).toNatClampNeg (z48 + (1 : Int32))) (fun u49 => z_let (((u49 w 14) + (4 : Int32)) &&& (7 : Int32)) (fun z50 => z_b2 (f_X9_collect w L z50 u49) (fun r51 u52 => z_let (z_up u52 w 18 r51) (fun u53 => (f_X9_fill w L z50 u53).bind (fun u54 => if a2 = true then ((f_X9_blow w L u54).bind (fun u57 => z_let (z_min (9999 : Int32) ((u57 w 15) + (1 : Int32))) (fun z58 => z_let (z_up u57 w 15 z58) (fun u59 => some u59)))) else (z_let (z_min (9999 : Int32) ((u54 w 15) + (1 : Int32))) (fun z55 => z_let (z_up u54 w 15 z55) (fun u56 => some u56))))))))) else none)) else none))) else none))))))) else none) := rfl
set_option maxRecDepth 100000 in
set_option maxHeartbeats 4000000 in
theorem c_X9_halt (l : Launch) (D : zD) (A : Nat → Prop) (b : Nat) (g : zG) (w : Nat) (L : Nat → Nat) (hw : zWh g w L) (a1 : Int32) (a2 : Bool) (u : zU) {u' : zU} (h : f_X9_halt w L a1 a2 u = some u') : z_M l D A b g yX9_halt cX9_halt 5 none 5 125 [.ref (b + w), .int a1, .int (bI a2)] u none u' := by
  refine z_enter (by decide) (Nat.le_of_ble_eq_true rfl) ?_
  intro p e s m below meth c ls C0 hr hml hlk hW hS hl
  have hl : lv_has ls 5 [(0, .ref (b + w)), (1, .int a1), (2, .int (bI a2))] := hl
  have hx := C0.1
  have hb := C0.2.1
  rw [f_X9_halt_e] at h
  refine lv_aload_n hx hb dX9_halt_0 rfl (lv_at hl 0 rfl) ?_
  refine z_geti C0 hW fl_X9_49 hw.1 rfl dX9_halt_1 ?_
  refine lv_if_le (tgt := 18) hx hb dX9_halt_4 (by decide) (fun hc => ?_) (fun hc => ?_)
  · replace h := z_t h hc
    clear hc
    refine lv_iconst (v := (1 : Int32)) hx hb dX9_halt_18 (by decide) ?_
    refine lv_istore_n (lv' := [(3, .int (1 : Int32)), (0, .ref (b + w)), (1, .int a1), (2, .int (bI a2))]) hx hb dX9_halt_19 rfl hl (by decide) rfl (fun ls hl => ?_)
    refine lv_aload_n hx hb dX9_halt_20 rfl (lv_at hl 1 rfl) ?_
    refine lv_aload_n hx hb dX9_halt_21 rfl (lv_at hl 1 rfl) ?_
    refine z_geti C0 hW fl_X9_55 hw.1 rfl dX9_halt_22 ?_
    refine lv_aload_n hx hb dX9_halt_25 rfl (lv_at hl 1 rfl) ?_
    replace h := z_bd2 h
    obtain ⟨r1, u2, hq, h⟩ := h
    refine z_cvi (As := []) C0 hml hl.1 hW hS (c_X9_goesFarther l D A b g w L hw u hq) mv_X9_125 hw.1 ⟨Nat.le_of_ble_eq_true rfl, Nat.le_of_ble_eq_true rfl⟩ rfl rfl (Nat.le_of_ble_eq_true rfl) dX9_halt_26 (fun H locs hW hS => ?_)
    clear hq
    refine lv_iadd hx hb dX9_halt_29 ?_
    refine lv_iload_n hx hb dX9_halt_30 rfl (lv_at hl 0 rfl) ?_
    refine lv_iadd hx hb dX9_halt_31 ?_
    refine lv_bipush (v := (7 : Int32)) hx hb dX9_halt_32 (by decide) ?_
    refine lv_iand hx hb dX9_halt_34 ?_
    refine z_puti C0 hW hS fl_X9_55 hw.1 rfl rfl rfl dX9_halt_35 (fun H locs u3 e1 hW hS => ?_)
    replace h := z_ly h e1
    clear e1
    refine lv_aload_n hx hb dX9_halt_38 rfl (lv_at hl 1 rfl) ?_
    refine lv_aload_n hx hb dX9_halt_39 rfl (lv_at hl 1 rfl) ?_
    refine lv_aload_n hx hb dX9_halt_40 rfl (lv_at hl 1 rfl) ?_
    refine z_geti C0 hW fl_X9_55 hw.1 rfl dX9_halt_41 ?_
    replace h := z_bd h
    obtain ⟨r4, hq, h⟩ := h
    refine z_cvi (As := [.int (u3 w 14)]) C0 hml hl.1 hW hS (c_X9_firstIn l D A b g w L hw (u3 w 14) u3 hq) mv_X9_107 hw.1 ⟨Nat.le_of_ble_eq_true rfl, Nat.le_of_ble_eq_true rfl⟩ rfl rfl (Nat.le_of_ble_eq_true rfl) dX9_halt_44 (fun H locs hW hS => ?_)
    clear hq
    refine z_puti C0 hW hS fl_X9_64 hw.1 rfl rfl rfl dX9_halt_47 (fun H locs u5 e1 hW hS => ?_)
    replace h := z_ly h e1
    clear e1
    refine lv_aload_n hx hb dX9_halt_50 rfl (lv_at hl 1 rfl) ?_
    refine z_geti C0 hW fl_X9_64 hw.1 rfl dX9_halt_51 ?_
    refine lv_iconst (v := (-1 : Int32)) hx hb dX9_halt_54 (by decide) ?_
    refine lv_icmp_eq (tgt := 78) hx hb dX9_halt_55 (by decide) (fun hc => ?_) (fun hc => ?_)
    · replace h := z_t h hc
      clear hc
      refine lv_aload_n hx hb dX9_halt_78 rfl (lv_at hl 1 rfl) ?_
      refine z_geti C0 hW fl_X9_55 hw.1 rfl dX9_halt_79 ?_
      refine lv_iconst (v := (4 : Int32)) hx hb dX9_halt_82 (by decide) ?_
      refine lv_iadd hx hb dX9_halt_83 ?_
      refine lv_bipush (v := (7 : Int32)) hx hb dX9_halt_84 (by decide) ?_
      refine lv_iand hx hb dX9_halt_86 ?_
      refine lv_topi (fun z6 e1 => ?_)
      replace h := z_ly h e1
      clear e1
      refine lv_istore (lv' := [(4, .int z6), (3, .int (1 : Int32)), (0, .ref (b + w)), (1, .int a1), (2, .int (bI a2))]) hx hb dX9_halt_87 hl (by decide) rfl (fun ls hl => ?_)
      refine lv_aload_n hx hb dX9_halt_89 rfl (lv_at hl 2 rfl) ?_
      refine lv_aload_n hx hb dX9_halt_90 rfl (lv_at hl 2 rfl) ?_
      refine lv_iload hx hb dX9_halt_91 (lv_at hl 0 rfl) ?_
      replace h := z_bd2 h
      obtain ⟨r7, u8, hq, h⟩ := h
      refine z_cvi (As := [.int z6]) C0 hml hl.1 hW hS (c_X9_collect l D A b g w L hw z6 u5 hq) mv_X9_129 hw.1 ⟨Nat.le_of_ble_eq_true rfl, Nat.le_of_ble_eq_true rfl⟩ rfl rfl (Nat.le_of_ble_eq_true rfl) dX9_halt_93 (fun H locs hW hS => ?_)
      clear hq
      refine z_puti C0 hW hS fl_X9_67 hw.1 rfl rfl rfl dX9_halt_96 (fun H locs u9 e1 hW hS => ?_)
      replace h := z_ly h e1
      clear e1
      refine lv_aload_n hx hb dX9_halt_99 rfl (lv_at hl 2 rfl) ?_
      refine lv_iload hx hb dX9_halt_100 (lv_at hl 0 rfl) ?_
      replace h := z_bd h
      obtain ⟨u10, hq, h⟩ := h
      refine z_cvv (As := [.int z6]) C0 hml hl.1 hW hS (c_X9_fill l D A b g w L hw z6 u9 hq) mv_X9_132 hw.1 ⟨Nat.le_of_ble_eq_true rfl, Nat.le_of_ble_eq_true rfl⟩ rfl rfl (Nat.le_of_ble_eq_true rfl) dX9_halt_102 (fun H locs hW hS => ?_)
      clear hq
      refine lv_iload_n hx hb dX9_halt_105 rfl (lv_at hl 4 rfl) ?_
      refine z_ifeqZ C0 (tgt := 113) dX9_halt_106 (by decide) (fun hc => ?_) (fun hc => ?_)
      · replace h := z_ff h hc
        clear hc
        refine lv_aload_n hx hb dX9_halt_113 rfl (lv_at hl 2 rfl) ?_
        refine lv_sipush (v := (9999 : Int32)) hx hb dX9_halt_114 (by decide) ?_
        refine lv_aload_n hx hb dX9_halt_117 rfl (lv_at hl 2 rfl) ?_
        refine z_geti C0 hW fl_X9_58 hw.1 rfl dX9_halt_118 ?_
        refine lv_iconst (v := (1 : Int32)) hx hb dX9_halt_121 (by decide) ?_
        refine lv_iadd hx hb dX9_halt_122 ?_
        refine va_mmin hx hb (hml.trans hl.1.symm) C0.2.2.2.1 (C0.2.2.1 _ w_mm_X9_138) (C0.2.2.1 _ w_mst_min) (C0.2.2.1 _ w_min_Math) (C0.2.2.1 _ w_mco_min) (Nat.le_of_ble_eq_true rfl) (Nat.le_of_ble_eq_true rfl) (Nat.zero_le _) (Nat.zero_le _) dX9_halt_123 ?_
        refine lv_topi (fun z11 e1 => ?_)
        replace h := z_ly h e1
        clear e1
        refine z_puti C0 hW hS fl_X9_58 hw.1 rfl rfl rfl dX9_halt_126 (fun H locs u12 e1 hW hS => ?_)
        replace h := z_ly h e1
        clear e1
        cases h
        exact z_vret C0 hr hlk hW hS dX9_halt_129
      · replace h := z_t h hc
        clear hc
        refine lv_aload_n hx hb dX9_halt_109 rfl (lv_at hl 2 rfl) ?_
        replace h := z_bd h
        obtain ⟨u13, hq, h⟩ := h
        refine z_cvv (As := []) C0 hml hl.1 hW hS (c_X9_blow l D A b g w L hw u10 hq) mv_X9_135 hw.1 ⟨Nat.le_of_ble_eq_true rfl, Nat.le_of_ble_eq_true rfl⟩ rfl rfl (Nat.le_of_ble_eq_true rfl) dX9_halt_110 (fun H locs hW hS => ?_)
        clear hq
        refine lv_aload_n hx hb dX9_halt_113 rfl (lv_at hl 2 rfl) ?_
        refine lv_sipush (v := (9999 : Int32)) hx hb dX9_halt_114 (by decide) ?_
        refine lv_aload_n hx hb dX9_halt_117 rfl (lv_at hl 2 rfl) ?_
        refine z_geti C0 hW fl_X9_58 hw.1 rfl dX9_halt_118 ?_
        refine lv_iconst (v := (1 : Int32)) hx hb dX9_halt_121 (by decide) ?_
        refine lv_iadd hx hb dX9_halt_122 ?_
        refine va_mmin hx hb (hml.trans hl.1.symm) C0.2.2.2.1 (C0.2.2.1 _ w_mm_X9_138) (C0.2.2.1 _ w_mst_min) (C0.2.2.1 _ w_min_Math) (C0.2.2.1 _ w_mco_min) (Nat.le_of_ble_eq_true rfl) (Nat.le_of_ble_eq_true rfl) (Nat.zero_le _) (Nat.zero_le _) dX9_halt_123 ?_
        refine lv_topi (fun z14 e1 => ?_)
        replace h := z_ly h e1
        clear e1
        refine z_puti C0 hW hS fl_X9_58 hw.1 rfl rfl rfl dX9_halt_126 (fun H locs u15 e1 hW hS => ?_)
        replace h := z_ly h e1
        clear e1
        cases h
        exact z_vret C0 hr hlk hW hS dX9_halt_129
    · replace h := z_f h hc
      clear hc
      refine lv_aload_n hx hb dX9_halt_58 rfl (lv_at hl 1 rfl) ?_
      refine z_getr (o := w + 7) C0 hW fl_X9_30 hw.1 rfl (hw.2.1 6 (by decide)).1 dX9_halt_59 ?_
      refine lv_aload_n hx hb dX9_halt_62 rfl (lv_at hl 1 rfl) ?_
      refine z_getr (o := w + 4) C0 hW fl_X9_21 hw.1 rfl (hw.2.1 3 (by decide)).1 dX9_halt_63 ?_
      refine lv_aload_n hx hb dX9_halt_66 rfl (lv_at hl 1 rfl) ?_
      refine z_geti C0 hW fl_X9_64 hw.1 rfl dX9_halt_67 ?_
      replace h := z_if h
      obtain ⟨hin, h⟩ := h
      refine z_iald (n := 8) C0 hW (hw.2.1 3 (by decide)).2.1 (hw.2.1 3 (by decide)).2.2 hin rfl dX9_halt_70 ?_
      clear hin
      refine lv_topi (fun z16 e1 => ?_)
      replace h := z_ly h e1
      clear e1
      refine lv_iconst (v := (3 : Int32)) hx hb dX9_halt_71 (by decide) ?_
      refine lv_iand hx hb dX9_halt_72 ?_
      refine lv_topi (fun z17 e1 => ?_)
      replace h := z_ly h e1
      clear e1
      refine lv_dup2_11 hx hb dX9_halt_73 rfl rfl ?_
      replace h := z_if h
      obtain ⟨hin, h⟩ := h
      refine z_iald (n := 4) C0 hW (hw.2.1 6 (by decide)).2.1 (hw.2.1 6 (by decide)).2.2 hin rfl dX9_halt_74 ?_
      clear hin
      refine lv_topi (fun z18 e1 => ?_)
      replace h := z_ly h e1
      clear e1
      refine lv_iconst (v := (1 : Int32)) hx hb dX9_halt_75 (by decide) ?_
      refine lv_iadd hx hb dX9_halt_76 ?_
      replace h := z_if h
      obtain ⟨hin, h⟩ := h
      refine z_iast (n := 4) C0 hW hS (hw.2.1 6 (by decide)).2.1 (hw.2.1 6 (by decide)).2.2 hin rfl dX9_halt_77 (fun H locs u19 e1 hW hS => ?_)
      replace h := z_ly h e1
      clear e1
      refine lv_aload_n hx hb dX9_halt_78 rfl (lv_at hl 1 rfl) ?_
      refine z_geti C0 hW fl_X9_55 hw.1 rfl dX9_halt_79 ?_
      refine lv_iconst (v := (4 : Int32)) hx hb dX9_halt_82 (by decide) ?_
      refine lv_iadd hx hb dX9_halt_83 ?_
      refine lv_bipush (v := (7 : Int32)) hx hb dX9_halt_84 (by decide) ?_
      refine lv_iand hx hb dX9_halt_86 ?_
      refine lv_topi (fun z20 e1 => ?_)
      replace h := z_ly h e1
      clear e1
      refine lv_istore (lv' := [(4, .int z20), (3, .int (1 : Int32)), (0, .ref (b + w)), (1, .int a1), (2, .int (bI a2))]) hx hb dX9_halt_87 hl (by decide) rfl (fun ls hl => ?_)
      refine lv_aload_n hx hb dX9_halt_89 rfl (lv_at hl 2 rfl) ?_
      refine lv_aload_n hx hb dX9_halt_90 rfl (lv_at hl 2 rfl) ?_
      refine lv_iload hx hb dX9_halt_91 (lv_at hl 0 rfl) ?_
      replace h := z_bd2 h
      obtain ⟨r21, u22, hq, h⟩ := h
      refine z_cvi (As := [.int z20]) C0 hml hl.1 hW hS (c_X9_collect l D A b g w L hw z20 u19 hq) mv_X9_129 hw.1 ⟨Nat.le_of_ble_eq_true rfl, Nat.le_of_ble_eq_true rfl⟩ rfl rfl (Nat.le_of_ble_eq_true rfl) dX9_halt_93 (fun H locs hW hS => ?_)
      clear hq
      refine z_puti C0 hW hS fl_X9_67 hw.1 rfl rfl rfl dX9_halt_96 (fun H locs u23 e1 hW hS => ?_)
      replace h := z_ly h e1
      clear e1
      refine lv_aload_n hx hb dX9_halt_99 rfl (lv_at hl 2 rfl) ?_
      refine lv_iload hx hb dX9_halt_100 (lv_at hl 0 rfl) ?_
      replace h := z_bd h
      obtain ⟨u24, hq, h⟩ := h
      refine z_cvv (As := [.int z20]) C0 hml hl.1 hW hS (c_X9_fill l D A b g w L hw z20 u23 hq) mv_X9_132 hw.1 ⟨Nat.le_of_ble_eq_true rfl, Nat.le_of_ble_eq_true rfl⟩ rfl rfl (Nat.le_of_ble_eq_true rfl) dX9_halt_102 (fun H locs hW hS => ?_)
      clear hq
      refine lv_iload_n hx hb dX9_halt_105 rfl (lv_at hl 4 rfl) ?_
      refine z_ifeqZ C0 (tgt := 113) dX9_halt_106 (by decide) (fun hc => ?_) (fun hc => ?_)
      · replace h := z_ff h hc
        clear hc
        refine lv_aload_n hx hb dX9_halt_113 rfl (lv_at hl 2 rfl) ?_
        refine lv_sipush (v := (9999 : Int32)) hx hb dX9_halt_114 (by decide) ?_
        refine lv_aload_n hx hb dX9_halt_117 rfl (lv_at hl 2 rfl) ?_
        refine z_geti C0 hW fl_X9_58 hw.1 rfl dX9_halt_118 ?_
        refine lv_iconst (v := (1 : Int32)) hx hb dX9_halt_121 (by decide) ?_
        refine lv_iadd hx hb dX9_halt_122 ?_
        refine va_mmin hx hb (hml.trans hl.1.symm) C0.2.2.2.1 (C0.2.2.1 _ w_mm_X9_138) (C0.2.2.1 _ w_mst_min) (C0.2.2.1 _ w_min_Math) (C0.2.2.1 _ w_mco_min) (Nat.le_of_ble_eq_true rfl) (Nat.le_of_ble_eq_true rfl) (Nat.zero_le _) (Nat.zero_le _) dX9_halt_123 ?_
        refine lv_topi (fun z25 e1 => ?_)
        replace h := z_ly h e1
        clear e1
        refine z_puti C0 hW hS fl_X9_58 hw.1 rfl rfl rfl dX9_halt_126 (fun H locs u26 e1 hW hS => ?_)
        replace h := z_ly h e1
        clear e1
        cases h
        exact z_vret C0 hr hlk hW hS dX9_halt_129
      · replace h := z_t h hc
        clear hc
        refine lv_aload_n hx hb dX9_halt_109 rfl (lv_at hl 2 rfl) ?_
        replace h := z_bd h
        obtain ⟨u27, hq, h⟩ := h
        refine z_cvv (As := []) C0 hml hl.1 hW hS (c_X9_blow l D A b g w L hw u24 hq) mv_X9_135 hw.1 ⟨Nat.le_of_ble_eq_true rfl, Nat.le_of_ble_eq_true rfl⟩ rfl rfl (Nat.le_of_ble_eq_true rfl) dX9_halt_110 (fun H locs hW hS => ?_)
        clear hq
        refine lv_aload_n hx hb dX9_halt_113 rfl (lv_at hl 2 rfl) ?_
        refine lv_sipush (v := (9999 : Int32)) hx hb dX9_halt_114 (by decide) ?_
        refine lv_aload_n hx hb dX9_halt_117 rfl (lv_at hl 2 rfl) ?_
        refine z_geti C0 hW fl_X9_58 hw.1 rfl dX9_halt_118 ?_
        refine lv_iconst (v := (1 : Int32)) hx hb dX9_halt_121 (by decide) ?_
        refine lv_iadd hx hb dX9_halt_122 ?_
        refine va_mmin hx hb (hml.trans hl.1.symm) C0.2.2.2.1 (C0.2.2.1 _ w_mm_X9_138) (C0.2.2.1 _ w_mst_min) (C0.2.2.1 _ w_min_Math) (C0.2.2.1 _ w_mco_min) (Nat.le_of_ble_eq_true rfl) (Nat.le_of_ble_eq_true rfl) (Nat.zero_le _) (Nat.zero_le _) dX9_halt_123 ?_
        refine lv_topi (fun z28 e1 => ?_)
        replace h := z_ly h e1
        clear e1
        refine z_puti C0 hW hS fl_X9_58 hw.1 rfl rfl rfl dX9_halt_126 (fun H locs u29 e1 hW hS => ?_)
        replace h := z_ly h e1
        clear e1
        cases h
        exact z_vret C0 hr hlk hW hS dX9_halt_129
  · replace h := z_f h hc
    clear hc
    refine lv_iload_n hx hb dX9_halt_7 rfl (lv_at hl 1 rfl) ?_
    refine lv_aload_n hx hb dX9_halt_8 rfl (lv_at hl 0 rfl) ?_
    refine z_geti C0 hW fl_X9_49 hw.1 rfl dX9_halt_9 ?_
    replace h := z_if h
    obtain ⟨hne, h⟩ := h
    refine lv_irem hx hb dX9_halt_12 hne ?_
    clear hne
    refine lv_iconst (v := (1 : Int32)) hx hb dX9_halt_13 (by decide) ?_
    refine lv_iadd hx hb dX9_halt_14 ?_
    refine lv_goto (tgt := 19) hx hb dX9_halt_15 (by decide) ?_
    refine lv_topi (fun z30 e1 => ?_)
    replace h := z_ly h e1
    clear e1
    refine lv_istore_n (lv' := [(3, .int z30), (0, .ref (b + w)), (1, .int a1), (2, .int (bI a2))]) hx hb dX9_halt_19 rfl hl (by decide) rfl (fun ls hl => ?_)
    refine lv_aload_n hx hb dX9_halt_20 rfl (lv_at hl 1 rfl) ?_
    refine lv_aload_n hx hb dX9_halt_21 rfl (lv_at hl 1 rfl) ?_
    refine z_geti C0 hW fl_X9_55 hw.1 rfl dX9_halt_22 ?_
    refine lv_aload_n hx hb dX9_halt_25 rfl (lv_at hl 1 rfl) ?_
    replace h := z_bd2 h
    obtain ⟨r31, u32, hq, h⟩ := h
    refine z_cvi (As := []) C0 hml hl.1 hW hS (c_X9_goesFarther l D A b g w L hw u hq) mv_X9_125 hw.1 ⟨Nat.le_of_ble_eq_true rfl, Nat.le_of_ble_eq_true rfl⟩ rfl rfl (Nat.le_of_ble_eq_true rfl) dX9_halt_26 (fun H locs hW hS => ?_)
    clear hq
    refine lv_iadd hx hb dX9_halt_29 ?_
    refine lv_iload_n hx hb dX9_halt_30 rfl (lv_at hl 0 rfl) ?_
    refine lv_iadd hx hb dX9_halt_31 ?_
    refine lv_bipush (v := (7 : Int32)) hx hb dX9_halt_32 (by decide) ?_
    refine lv_iand hx hb dX9_halt_34 ?_
    refine z_puti C0 hW hS fl_X9_55 hw.1 rfl rfl rfl dX9_halt_35 (fun H locs u33 e1 hW hS => ?_)
    replace h := z_ly h e1
    clear e1
    refine lv_aload_n hx hb dX9_halt_38 rfl (lv_at hl 1 rfl) ?_
    refine lv_aload_n hx hb dX9_halt_39 rfl (lv_at hl 1 rfl) ?_
    refine lv_aload_n hx hb dX9_halt_40 rfl (lv_at hl 1 rfl) ?_
    refine z_geti C0 hW fl_X9_55 hw.1 rfl dX9_halt_41 ?_
    replace h := z_bd h
    obtain ⟨r34, hq, h⟩ := h
    refine z_cvi (As := [.int (u33 w 14)]) C0 hml hl.1 hW hS (c_X9_firstIn l D A b g w L hw (u33 w 14) u33 hq) mv_X9_107 hw.1 ⟨Nat.le_of_ble_eq_true rfl, Nat.le_of_ble_eq_true rfl⟩ rfl rfl (Nat.le_of_ble_eq_true rfl) dX9_halt_44 (fun H locs hW hS => ?_)
    clear hq
    refine z_puti C0 hW hS fl_X9_64 hw.1 rfl rfl rfl dX9_halt_47 (fun H locs u35 e1 hW hS => ?_)
    replace h := z_ly h e1
    clear e1
    refine lv_aload_n hx hb dX9_halt_50 rfl (lv_at hl 1 rfl) ?_
    refine z_geti C0 hW fl_X9_64 hw.1 rfl dX9_halt_51 ?_
    refine lv_iconst (v := (-1 : Int32)) hx hb dX9_halt_54 (by decide) ?_
    refine lv_icmp_eq (tgt := 78) hx hb dX9_halt_55 (by decide) (fun hc => ?_) (fun hc => ?_)
    · replace h := z_t h hc
      clear hc
      refine lv_aload_n hx hb dX9_halt_78 rfl (lv_at hl 1 rfl) ?_
      refine z_geti C0 hW fl_X9_55 hw.1 rfl dX9_halt_79 ?_
      refine lv_iconst (v := (4 : Int32)) hx hb dX9_halt_82 (by decide) ?_
      refine lv_iadd hx hb dX9_halt_83 ?_
      refine lv_bipush (v := (7 : Int32)) hx hb dX9_halt_84 (by decide) ?_
      refine lv_iand hx hb dX9_halt_86 ?_
      refine lv_topi (fun z36 e1 => ?_)
      replace h := z_ly h e1
      clear e1
      refine lv_istore (lv' := [(4, .int z36), (3, .int z30), (0, .ref (b + w)), (1, .int a1), (2, .int (bI a2))]) hx hb dX9_halt_87 hl (by decide) rfl (fun ls hl => ?_)
      refine lv_aload_n hx hb dX9_halt_89 rfl (lv_at hl 2 rfl) ?_
      refine lv_aload_n hx hb dX9_halt_90 rfl (lv_at hl 2 rfl) ?_
      refine lv_iload hx hb dX9_halt_91 (lv_at hl 0 rfl) ?_
      replace h := z_bd2 h
      obtain ⟨r37, u38, hq, h⟩ := h
      refine z_cvi (As := [.int z36]) C0 hml hl.1 hW hS (c_X9_collect l D A b g w L hw z36 u35 hq) mv_X9_129 hw.1 ⟨Nat.le_of_ble_eq_true rfl, Nat.le_of_ble_eq_true rfl⟩ rfl rfl (Nat.le_of_ble_eq_true rfl) dX9_halt_93 (fun H locs hW hS => ?_)
      clear hq
      refine z_puti C0 hW hS fl_X9_67 hw.1 rfl rfl rfl dX9_halt_96 (fun H locs u39 e1 hW hS => ?_)
      replace h := z_ly h e1
      clear e1
      refine lv_aload_n hx hb dX9_halt_99 rfl (lv_at hl 2 rfl) ?_
      refine lv_iload hx hb dX9_halt_100 (lv_at hl 0 rfl) ?_
      replace h := z_bd h
      obtain ⟨u40, hq, h⟩ := h
      refine z_cvv (As := [.int z36]) C0 hml hl.1 hW hS (c_X9_fill l D A b g w L hw z36 u39 hq) mv_X9_132 hw.1 ⟨Nat.le_of_ble_eq_true rfl, Nat.le_of_ble_eq_true rfl⟩ rfl rfl (Nat.le_of_ble_eq_true rfl) dX9_halt_102 (fun H locs hW hS => ?_)
      clear hq
      refine lv_iload_n hx hb dX9_halt_105 rfl (lv_at hl 4 rfl) ?_
      refine z_ifeqZ C0 (tgt := 113) dX9_halt_106 (by decide) (fun hc => ?_) (fun hc => ?_)
      · replace h := z_ff h hc
        clear hc
        refine lv_aload_n hx hb dX9_halt_113 rfl (lv_at hl 2 rfl) ?_
        refine lv_sipush (v := (9999 : Int32)) hx hb dX9_halt_114 (by decide) ?_
        refine lv_aload_n hx hb dX9_halt_117 rfl (lv_at hl 2 rfl) ?_
        refine z_geti C0 hW fl_X9_58 hw.1 rfl dX9_halt_118 ?_
        refine lv_iconst (v := (1 : Int32)) hx hb dX9_halt_121 (by decide) ?_
        refine lv_iadd hx hb dX9_halt_122 ?_
        refine va_mmin hx hb (hml.trans hl.1.symm) C0.2.2.2.1 (C0.2.2.1 _ w_mm_X9_138) (C0.2.2.1 _ w_mst_min) (C0.2.2.1 _ w_min_Math) (C0.2.2.1 _ w_mco_min) (Nat.le_of_ble_eq_true rfl) (Nat.le_of_ble_eq_true rfl) (Nat.zero_le _) (Nat.zero_le _) dX9_halt_123 ?_
        refine lv_topi (fun z41 e1 => ?_)
        replace h := z_ly h e1
        clear e1
        refine z_puti C0 hW hS fl_X9_58 hw.1 rfl rfl rfl dX9_halt_126 (fun H locs u42 e1 hW hS => ?_)
        replace h := z_ly h e1
        clear e1
        cases h
        exact z_vret C0 hr hlk hW hS dX9_halt_129
      · replace h := z_t h hc
        clear hc
        refine lv_aload_n hx hb dX9_halt_109 rfl (lv_at hl 2 rfl) ?_
        replace h := z_bd h
        obtain ⟨u43, hq, h⟩ := h
        refine z_cvv (As := []) C0 hml hl.1 hW hS (c_X9_blow l D A b g w L hw u40 hq) mv_X9_135 hw.1 ⟨Nat.le_of_ble_eq_true rfl, Nat.le_of_ble_eq_true rfl⟩ rfl rfl (Nat.le_of_ble_eq_true rfl) dX9_halt_110 (fun H locs hW hS => ?_)
        clear hq
        refine lv_aload_n hx hb dX9_halt_113 rfl (lv_at hl 2 rfl) ?_
        refine lv_sipush (v := (9999 : Int32)) hx hb dX9_halt_114 (by decide) ?_
        refine lv_aload_n hx hb dX9_halt_117 rfl (lv_at hl 2 rfl) ?_
        refine z_geti C0 hW fl_X9_58 hw.1 rfl dX9_halt_118 ?_
        refine lv_iconst (v := (1 : Int32)) hx hb dX9_halt_121 (by decide) ?_
        refine lv_iadd hx hb dX9_halt_122 ?_
        refine va_mmin hx hb (hml.trans hl.1.symm) C0.2.2.2.1 (C0.2.2.1 _ w_mm_X9_138) (C0.2.2.1 _ w_mst_min) (C0.2.2.1 _ w_min_Math) (C0.2.2.1 _ w_mco_min) (Nat.le_of_ble_eq_true rfl) (Nat.le_of_ble_eq_true rfl) (Nat.zero_le _) (Nat.zero_le _) dX9_halt_123 ?_
        refine lv_topi (fun z44 e1 => ?_)
        replace h := z_ly h e1
        clear e1
        refine z_puti C0 hW hS fl_X9_58 hw.1 rfl rfl rfl dX9_halt_126 (fun H locs u45 e1 hW hS => ?_)
        replace h := z_ly h e1
        clear e1
        cases h
        exact z_vret C0 hr hlk hW hS dX9_halt_129
    · replace h := z_f h hc
      clear hc
      refine lv_aload_n hx hb dX9_halt_58 rfl (lv_at hl 1 rfl) ?_
      refine z_getr (o := w + 7) C0 hW fl_X9_30 hw.1 rfl (hw.2.1 6 (by decide)).1 dX9_halt_59 ?_
      refine lv_aload_n hx hb dX9_halt_62 rfl (lv_at hl 1 rfl) ?_
      refine z_getr (o := w + 4) C0 hW fl_X9_21 hw.1 rfl (hw.2.1 3 (by decide)).1 dX9_halt_63 ?_
      refine lv_aload_n hx hb dX9_halt_66 rfl (lv_at hl 1 rfl) ?_
      refine z_geti C0 hW fl_X9_64 hw.1 rfl dX9_halt_67 ?_
      replace h := z_if h
      obtain ⟨hin, h⟩ := h
      refine z_iald (n := 8) C0 hW (hw.2.1 3 (by decide)).2.1 (hw.2.1 3 (by decide)).2.2 hin rfl dX9_halt_70 ?_
      clear hin
      refine lv_topi (fun z46 e1 => ?_)
      replace h := z_ly h e1
      clear e1
      refine lv_iconst (v := (3 : Int32)) hx hb dX9_halt_71 (by decide) ?_
      refine lv_iand hx hb dX9_halt_72 ?_
      refine lv_topi (fun z47 e1 => ?_)
      replace h := z_ly h e1
      clear e1
      refine lv_dup2_11 hx hb dX9_halt_73 rfl rfl ?_
      replace h := z_if h
      obtain ⟨hin, h⟩ := h
      refine z_iald (n := 4) C0 hW (hw.2.1 6 (by decide)).2.1 (hw.2.1 6 (by decide)).2.2 hin rfl dX9_halt_74 ?_
      clear hin
      refine lv_topi (fun z48 e1 => ?_)
      replace h := z_ly h e1
      clear e1
      refine lv_iconst (v := (1 : Int32)) hx hb dX9_halt_75 (by decide) ?_
      refine lv_iadd hx hb dX9_halt_76 ?_
      replace h := z_if h
      obtain ⟨hin, h⟩ := h
      refine z_iast (n := 4) C0 hW hS (hw.2.1 6 (by decide)).2.1 (hw.2.1 6 (by decide)).2.2 hin rfl dX9_halt_77 (fun H locs u49 e1 hW hS => ?_)
      replace h := z_ly h e1
      clear e1
      refine lv_aload_n hx hb dX9_halt_78 rfl (lv_at hl 1 rfl) ?_
      refine z_geti C0 hW fl_X9_55 hw.1 rfl dX9_halt_79 ?_
      refine lv_iconst (v := (4 : Int32)) hx hb dX9_halt_82 (by decide) ?_
      refine lv_iadd hx hb dX9_halt_83 ?_
      refine lv_bipush (v := (7 : Int32)) hx hb dX9_halt_84 (by decide) ?_
      refine lv_iand hx hb dX9_halt_86 ?_
      refine lv_topi (fun z50 e1 => ?_)
      replace h := z_ly h e1
      clear e1
      refine lv_istore (lv' := [(4, .int z50), (3, .int z30), (0, .ref (b + w)), (1, .int a1), (2, .int (bI a2))]) hx hb dX9_halt_87 hl (by decide) rfl (fun ls hl => ?_)
      refine lv_aload_n hx hb dX9_halt_89 rfl (lv_at hl 2 rfl) ?_
      refine lv_aload_n hx hb dX9_halt_90 rfl (lv_at hl 2 rfl) ?_
      refine lv_iload hx hb dX9_halt_91 (lv_at hl 0 rfl) ?_
      replace h := z_bd2 h
      obtain ⟨r51, u52, hq, h⟩ := h
      refine z_cvi (As := [.int z50]) C0 hml hl.1 hW hS (c_X9_collect l D A b g w L hw z50 u49 hq) mv_X9_129 hw.1 ⟨Nat.le_of_ble_eq_true rfl, Nat.le_of_ble_eq_true rfl⟩ rfl rfl (Nat.le_of_ble_eq_true rfl) dX9_halt_93 (fun H locs hW hS => ?_)
      clear hq
      refine z_puti C0 hW hS fl_X9_67 hw.1 rfl rfl rfl dX9_halt_96 (fun H locs u53 e1 hW hS => ?_)
      replace h := z_ly h e1
      clear e1
      refine lv_aload_n hx hb dX9_halt_99 rfl (lv_at hl 2 rfl) ?_
      refine lv_iload hx hb dX9_halt_100 (lv_at hl 0 rfl) ?_
      replace h := z_bd h
      obtain ⟨u54, hq, h⟩ := h
      refine z_cvv (As := [.int z50]) C0 hml hl.1 hW hS (c_X9_fill l D A b g w L hw z50 u53 hq) mv_X9_132 hw.1 ⟨Nat.le_of_ble_eq_true rfl, Nat.le_of_ble_eq_true rfl⟩ rfl rfl (Nat.le_of_ble_eq_true rfl) dX9_halt_102 (fun H locs hW hS => ?_)
      clear hq
      refine lv_iload_n hx hb dX9_halt_105 rfl (lv_at hl 4 rfl) ?_
      refine z_ifeqZ C0 (tgt := 113) dX9_halt_106 (by decide) (fun hc => ?_) (fun hc => ?_)
      · replace h := z_ff h hc
        clear hc
        refine lv_aload_n hx hb dX9_halt_113 rfl (lv_at hl 2 rfl) ?_
        refine lv_sipush (v := (9999 : Int32)) hx hb dX9_halt_114 (by decide) ?_
        refine lv_aload_n hx hb dX9_halt_117 rfl (lv_at hl 2 rfl) ?_
        refine z_geti C0 hW fl_X9_58 hw.1 rfl dX9_halt_118 ?_
        refine lv_iconst (v := (1 : Int32)) hx hb dX9_halt_121 (by decide) ?_
        refine lv_iadd hx hb dX9_halt_122 ?_
        refine va_mmin hx hb (hml.trans hl.1.symm) C0.2.2.2.1 (C0.2.2.1 _ w_mm_X9_138) (C0.2.2.1 _ w_mst_min) (C0.2.2.1 _ w_min_Math) (C0.2.2.1 _ w_mco_min) (Nat.le_of_ble_eq_true rfl) (Nat.le_of_ble_eq_true rfl) (Nat.zero_le _) (Nat.zero_le _) dX9_halt_123 ?_
        refine lv_topi (fun z55 e1 => ?_)
        replace h := z_ly h e1
        clear e1
        refine z_puti C0 hW hS fl_X9_58 hw.1 rfl rfl rfl dX9_halt_126 (fun H locs u56 e1 hW hS => ?_)
        replace h := z_ly h e1
        clear e1
        cases h
        exact z_vret C0 hr hlk hW hS dX9_halt_129
      · replace h := z_t h hc
        clear hc
        refine lv_aload_n hx hb dX9_halt_109 rfl (lv_at hl 2 rfl) ?_
        replace h := z_bd h
        obtain ⟨u57, hq, h⟩ := h
        refine z_cvv (As := []) C0 hml hl.1 hW hS (c_X9_blow l D A b g w L hw u54 hq) mv_X9_135 hw.1 ⟨Nat.le_of_ble_eq_true rfl, Nat.le_of_ble_eq_true rfl⟩ rfl rfl (Nat.le_of_ble_eq_true rfl) dX9_halt_110 (fun H locs hW hS => ?_)
        clear hq
        refine lv_aload_n hx hb dX9_halt_113 rfl (lv_at hl 2 rfl) ?_
        refine lv_sipush (v := (9999 : Int32)) hx hb dX9_halt_114 (by decide) ?_
        refine lv_aload_n hx hb dX9_halt_117 rfl (lv_at hl 2 rfl) ?_
        refine z_geti C0 hW fl_X9_58 hw.1 rfl dX9_halt_118 ?_
        refine lv_iconst (v := (1 : Int32)) hx hb dX9_halt_121 (by decide) ?_
        refine lv_iadd hx hb dX9_halt_122 ?_
        refine va_mmin hx hb (hml.trans hl.1.symm) C0.2.2.2.1 (C0.2.2.1 _ w_mm_X9_138) (C0.2.2.1 _ w_mst_min) (C0.2.2.1 _ w_min_Math) (C0.2.2.1 _ w_mco_min) (Nat.le_of_ble_eq_true rfl) (Nat.le_of_ble_eq_true rfl) (Nat.zero_le _) (Nat.zero_le _) dX9_halt_123 ?_
        refine lv_topi (fun z58 e1 => ?_)
        replace h := z_ly h e1
        clear e1
        refine z_puti C0 hW hS fl_X9_58 hw.1 rfl rfl rfl dX9_halt_126 (fun H locs u59 e1 hW hS => ?_)
        replace h := z_ly h e1
        clear e1
        cases h
        exact z_vret C0 hr hlk hW hS dX9_halt_129
def f_X5_readCondition_37 (KA : Int32 → zU → Option (Int32 × zU)) (K : Int32 → Int32 → Int32 → zU → Option (Int32 × zU)) : Nat → Int32 → Int32 → Int32 → Int32 → Int32 → zU → Option (Int32 × zU)
  | 0, _, _, _, _, _, _ => none
  | n + 1, x1, x2, x3, x4, x5, u =>
    if (400 : Int32) ≤ x5 then (if x3 = 0 then (K x1 x4 (x3 + (1 : Int32)) u) else (z_b2 (f_X5_node (7 : Int32) x2 x4 u) (fun r3 u4 => K x1 r3 (x3 + (1 : Int32)) u4))) else (z_b2 (f_X8_takes 34 u) (fun t5 u6 => if t5 = true then (z_b2 (KA x1 u6) (fun r9 u10 => z_b2 (f_X5_node (6 : Int32) x4 r9 u10) (fun r11 u12 => f_X5_readCondition_37 KA K n x1 x2 x3 r11 (x5 + (1 : Int32)) u12))) else (if x3 = 0 then (K x1 x4 (x3 + (1 : Int32)) u6) else (z_b2 (f_X5_node (7 : Int32) x2 x4 u6) (fun r7 u8 => K x1 r7 (x3 + (1 : Int32)) u8)))))
theorem f_X5_readCondition_37_s (KA : Int32 → zU → Option (Int32 × zU)) (K : Int32 → Int32 → Int32 → zU → Option (Int32 × zU)) (n : Nat) (x1 : Int32) (x2 : Int32) (x3 : Int32) (x4 : Int32) (x5 : Int32) (u : zU) : f_X5_readCondition_37 KA K (n + 1) x1 x2 x3 x4 x5 u = if (400 : Int32) ≤ x5 then (if x3 = 0 then (K x1 x4 (x3 + (1 : Int32)) u) else (z_b2 (f_X5_node (7 : Int32) x2 x4 u) (fun r3 u4 => K x1 r3 (x3 + (1 : Int32)) u4))) else (z_b2 (f_X8_takes 34 u) (fun t5 u6 => if t5 = true then (z_b2 (KA x1 u6) (fun r9 u10 => z_b2 (f_X5_node (6 : Int32) x4 r9 u10) (fun r11 u12 => f_X5_readCondition_37 KA K n x1 x2 x3 r11 (x5 + (1 : Int32)) u12))) else (if x3 = 0 then (K x1 x4 (x3 + (1 : Int32)) u6) else (z_b2 (f_X5_node (7 : Int32) x2 x4 u6) (fun r7 u8 => K x1 r7 (x3 + (1 : Int32)) u8))))) := rfl
def f_X5_readCondition_4 (KA : Int32 → zU → Option (Int32 × zU)) : Nat → Int32 → Int32 → Int32 → zU → Option (Int32 × zU)
  | 0, _, _, _, _ => none
  | n + 1, x1, x2, x3, u =>
    if x3 = 0 then (z_b2 (KA x1 u) (fun r1 u2 => f_X5_readCondition_37 KA (fun k1 k2 k3 u => f_X5_readCondition_4 KA n k1 k2 k3 u) 5000 x1 x2 x3 r1 (0 : Int32) u2)) else (if (400 : Int32) ≤ x3 then (some (x2, u)) else (z_b2 (f_X8_takes 33 u) (fun t13 u14 => if t13 = true then (z_b2 (KA x1 u14) (fun r15 u16 => f_X5_readCondition_37 KA (fun k1 k2 k3 u => f_X5_readCondition_4 KA n k1 k2 k3 u) 5000 x1 x2 x3 r15 (0 : Int32) u16)) else (some (x2, u14)))))
theorem f_X5_readCondition_4_s (KA : Int32 → zU → Option (Int32 × zU)) (n : Nat) (x1 : Int32) (x2 : Int32) (x3 : Int32) (u : zU) : f_X5_readCondition_4 KA (n + 1) x1 x2 x3 u = if x3 = 0 then (z_b2 (KA x1 u) (fun r1 u2 => f_X5_readCondition_37 KA (fun k1 k2 k3 u => f_X5_readCondition_4 KA n k1 k2 k3 u) 5000 x1 x2 x3 r1 (0 : Int32) u2)) else (if (400 : Int32) ≤ x3 then (some (x2, u)) else (z_b2 (f_X8_takes 33 u) (fun t13 u14 => if t13 = true then (z_b2 (KA x1 u14) (fun r15 u16 => f_X5_readCondition_37 KA (fun k1 k2 k3 u => f_X5_readCondition_4 KA n k1 k2 k3 u) 5000 x1 x2 x3 r15 (0 : Int32) u16)) else (some (x2, u14))))) := rfl
def f_X5_readCondition (KA : Int32 → zU → Option (Int32 × zU)) (a1 : Int32) (u : zU) : Option (Int32 × zU) :=
  f_X5_readCondition_4 KA 5000 a1 (-1 : Int32) (0 : Int32) u
set_option maxRecDepth 100000 in
set_option maxHeartbeats 4000000 in
theorem l_X5_readCondition_37 {l : Launch} {D : zD} {A : Nat → Prop} {b : Nat} {p : Program} {e : Env} {s : State} {m : MethodId} {args : Array Value} {below : List Frame} {meth : Method} {c : Code} {g : zG} {v : Int32} {u' : zU} {K : Int32 → Int32 → Int32 → zU → Option (Int32 × zU)} (C0 : z_C p c cX5_readCondition s m args yX5_readCondition.cls D A) (hr : meth.sig.returnType = (some .int)) (hml : c.maxLocals = 6) (hlk : meth.locks = false) (hs : zSt g) {fr lo : Nat} (hfr : 12 ≤ fr) (hlo : 400 ≤ lo) {KA : Int32 → zU → Option (Int32 × zU)} (hA : ∀ (p0 : Int32) (u : zU) (v : Int32) (u' : zU), KA p0 u = some (v, u') → z_M l D A b g yX5_readAtom cX5_readAtom 4 (some .int) fr lo [.ref (b + 29), .int p0] u (some (.int v)) u') (hK : ∀ (x1 : Int32) (x2 : Int32) (x3 : Int32) (u : zU) (H : Heap) (locs : List Loc) (ls : Array Slot), K x1 x2 x3 u = some (v, u') → z_W D A b g u H → va_S A s.heap H locs → lv_has ls 6 [(0, .ref (b + 29)), (1, .int x1), (2, .int x2), (3, .int x3)] → W p l e { frames := fr + 1, cells := 0, slots := 0, locals := lo + 60 } s m args below meth c H locs 0 0 (z_End D A b g below args s (some (.int v)) u') (F0 m 4 ls [])) : ∀ (n : Nat) (x1 : Int32) (x2 : Int32) (x3 : Int32) (x4 : Int32) (x5 : Int32) (u : zU) (H : Heap) (locs : List Loc) (ls : Array Slot), f_X5_readCondition_37 KA K n x1 x2 x3 x4 x5 u = some (v, u') → z_W D A b g u H → va_S A s.heap H locs → lv_has ls 6 [(0, .ref (b + 29)), (1, .int x1), (2, .int x2), (3, .int x3), (4, .int x4), (5, .int x5)] → W p l e { frames := fr + 1, cells := 0, slots := 0, locals := lo + 60 } s m args below meth c H locs 0 0 (z_End D A b g below args s (some (.int v)) u') (F0 m 37 ls []) := by
  have hx := C0.1
  have hb := C0.2.1
  intro n
  induction n with
  | zero => intro x1 x2 x3 x4 x5 u H locs ls h hW hS hl; cases h
  | succ n ih =>
    intro x1 x2 x3 x4 x5 u H locs ls h hW hS hl
    rw [f_X5_readCondition_37_s] at h
    refine lv_iload hx hb dX5_readCondition_37 (lv_at hl 5 rfl) ?_
    refine lv_sipush (v := (400 : Int32)) hx hb dX5_readCondition_39 (by decide) ?_
    refine lv_icmp_ge (tgt := 78) hx hb dX5_readCondition_42 (by decide) (fun hc => ?_) (fun hc => ?_)
    · replace h := z_t h hc
      clear hc
      refine lv_iload_n hx hb dX5_readCondition_78 rfl (lv_at hl 3 rfl) ?_
      refine lv_if_ne (tgt := 87) hx hb dX5_readCondition_79 (by decide) (fun hc => ?_) (fun hc => ?_)
      · replace h := z_f h hc
        clear hc
        refine lv_aload_n hx hb dX5_readCondition_87 rfl (lv_at hl 0 rfl) ?_
        refine lv_bipush (v := (7 : Int32)) hx hb dX5_readCondition_88 (by decide) ?_
        refine lv_iload_n hx hb dX5_readCondition_90 rfl (lv_at hl 2 rfl) ?_
        refine lv_iload hx hb dX5_readCondition_91 (lv_at hl 4 rfl) ?_
        replace h := z_bd2 h
        obtain ⟨r3, u4, hq, h⟩ := h
        refine z_cvi (As := [.int (7 : Int32), .int x2, .int x4]) C0 hml hl.1 hW hS (c_X5_node l D A b g hs (7 : Int32) x2 x4 u hq) mv_X5_76 (zk1 (hs 29 (by decide))) ⟨(show 0 + 1 ≤ fr + 1 by omega), (show 8 + (4 + 11) + (0) ≤ lo + 60 by omega)⟩ rfl rfl (Nat.le_of_ble_eq_true rfl) dX5_readCondition_93 (fun H locs hW hS => ?_)
        clear hq
        refine lv_istore_n (lv' := [(2, .int r3), (0, .ref (b + 29)), (1, .int x1), (3, .int x3), (4, .int x4), (5, .int x5)]) hx hb dX5_readCondition_96 rfl hl (by decide) rfl (fun ls hl => ?_)
        refine lv_iinc (v := x3 + (1 : Int32)) (lv' := [(3, .int (x3 + (1 : Int32))), (2, .int r3), (0, .ref (b + 29)), (1, .int x1), (4, .int x4), (5, .int x5)]) hx hb dX5_readCondition_97 hl (k := 3) rfl rfl (by decide) rfl (fun ls hl => ?_)
        refine lv_goto (tgt := 4) hx hb dX5_readCondition_100 (by decide) ?_
        exact hK _ _ _ _ _ _ _ h hW hS (lv_sub hl [2, 3, 1, 0] rfl)
      · replace h := z_t h hc
        clear hc
        refine lv_iload hx hb dX5_readCondition_82 (lv_at hl 4 rfl) ?_
        refine lv_goto (tgt := 96) hx hb dX5_readCondition_84 (by decide) ?_
        refine lv_istore_n (lv' := [(2, .int x4), (0, .ref (b + 29)), (1, .int x1), (3, .int x3), (4, .int x4), (5, .int x5)]) hx hb dX5_readCondition_96 rfl hl (by decide) rfl (fun ls hl => ?_)
        refine lv_iinc (v := x3 + (1 : Int32)) (lv' := [(3, .int (x3 + (1 : Int32))), (2, .int x4), (0, .ref (b + 29)), (1, .int x1), (4, .int x4), (5, .int x5)]) hx hb dX5_readCondition_97 hl (k := 3) rfl rfl (by decide) rfl (fun ls hl => ?_)
        refine lv_goto (tgt := 4) hx hb dX5_readCondition_100 (by decide) ?_
        exact hK _ _ _ _ _ _ _ h hW hS (lv_sub hl [2, 3, 1, 0] rfl)
    · replace h := z_f h hc
      clear hc
      refine lv_aload_n hx hb dX5_readCondition_45 rfl (lv_at hl 0 rfl) ?_
      refine z_getr (o := 3) C0 hW fl_X5_37 (zk1 (hs 29 (by decide))) rfl (zk3 (hs 29 (by decide)) 0) dX5_readCondition_46 ?_
      refine z_ldcS (k := 34) (tx := "and") C0 (List.mem_of_getElem? (i := 34) rfl) dX5_readCondition_49 ?_
      replace h := z_bd2 h
      obtain ⟨t5, u6, hq, h⟩ := h
      refine z_cvi (As := [.ref (sA D 34)]) C0 hml hl.1 hW hS (c_X8_takes l D A b g hs 34 (by decide) u hq) mv_X5_43 (zk1 (hs 3 (by decide))) ⟨(show 4 + 1 ≤ fr + 1 by omega), (show 8 + (5 + 11) + (85) ≤ lo + 60 by omega)⟩ rfl rfl (Nat.le_of_ble_eq_true rfl) dX5_readCondition_51 (fun H locs hW hS => ?_)
      clear hq
      refine z_ifeqZ C0 (tgt := 78) dX5_readCondition_54 (by decide) (fun hc => ?_) (fun hc => ?_)
      · replace h := z_ff h hc
        clear hc
        refine lv_iload_n hx hb dX5_readCondition_78 rfl (lv_at hl 3 rfl) ?_
        refine lv_if_ne (tgt := 87) hx hb dX5_readCondition_79 (by decide) (fun hc => ?_) (fun hc => ?_)
        · replace h := z_f h hc
          clear hc
          refine lv_aload_n hx hb dX5_readCondition_87 rfl (lv_at hl 0 rfl) ?_
          refine lv_bipush (v := (7 : Int32)) hx hb dX5_readCondition_88 (by decide) ?_
          refine lv_iload_n hx hb dX5_readCondition_90 rfl (lv_at hl 2 rfl) ?_
          refine lv_iload hx hb dX5_readCondition_91 (lv_at hl 4 rfl) ?_
          replace h := z_bd2 h
          obtain ⟨r7, u8, hq, h⟩ := h
          refine z_cvi (As := [.int (7 : Int32), .int x2, .int x4]) C0 hml hl.1 hW hS (c_X5_node l D A b g hs (7 : Int32) x2 x4 u6 hq) mv_X5_76 (zk1 (hs 29 (by decide))) ⟨(show 0 + 1 ≤ fr + 1 by omega), (show 8 + (4 + 11) + (0) ≤ lo + 60 by omega)⟩ rfl rfl (Nat.le_of_ble_eq_true rfl) dX5_readCondition_93 (fun H locs hW hS => ?_)
          clear hq
          refine lv_istore_n (lv' := [(2, .int r7), (0, .ref (b + 29)), (1, .int x1), (3, .int x3), (4, .int x4), (5, .int x5)]) hx hb dX5_readCondition_96 rfl hl (by decide) rfl (fun ls hl => ?_)
          refine lv_iinc (v := x3 + (1 : Int32)) (lv' := [(3, .int (x3 + (1 : Int32))), (2, .int r7), (0, .ref (b + 29)), (1, .int x1), (4, .int x4), (5, .int x5)]) hx hb dX5_readCondition_97 hl (k := 3) rfl rfl (by decide) rfl (fun ls hl => ?_)
          refine lv_goto (tgt := 4) hx hb dX5_readCondition_100 (by decide) ?_
          exact hK _ _ _ _ _ _ _ h hW hS (lv_sub hl [2, 3, 1, 0] rfl)
        · replace h := z_t h hc
          clear hc
          refine lv_iload hx hb dX5_readCondition_82 (lv_at hl 4 rfl) ?_
          refine lv_goto (tgt := 96) hx hb dX5_readCondition_84 (by decide) ?_
          refine lv_istore_n (lv' := [(2, .int x4), (0, .ref (b + 29)), (1, .int x1), (3, .int x3), (4, .int x4), (5, .int x5)]) hx hb dX5_readCondition_96 rfl hl (by decide) rfl (fun ls hl => ?_)
          refine lv_iinc (v := x3 + (1 : Int32)) (lv' := [(3, .int (x3 + (1 : Int32))), (2, .int x4), (0, .ref (b + 29)), (1, .int x1), (4, .int x4), (5, .int x5)]) hx hb dX5_readCondition_97 hl (k := 3) rfl rfl (by decide) rfl (fun ls hl => ?_)
          refine lv_goto (tgt := 4) hx hb dX5_readCondition_100 (by decide) ?_
          exact hK _ _ _ _ _ _ _ h hW hS (lv_sub hl [2, 3, 1, 0] rfl)
      · replace h := z_t h hc
        clear hc
        refine lv_aload_n hx hb dX5_readCondition_57 rfl (lv_at hl 0 rfl) ?_
        refine lv_bipush (v := (6 : Int32)) hx hb dX5_readCondition_58 (by decide) ?_
        refine lv_iload hx hb dX5_readCondition_60 (lv_at hl 4 rfl) ?_
        refine lv_aload_n hx hb dX5_readCondition_62 rfl (lv_at hl 0 rfl) ?_
        refine lv_iload_n hx hb dX5_readCondition_63 rfl (lv_at hl 1 rfl) ?_
        replace h := z_bd2 h
        obtain ⟨r9, u10, hq, h⟩ := h
        refine z_cvi (As := [.int x1]) C0 hml hl.1 hW hS (hA _ _ _ _ hq) mv_X5_69 (zk1 (hs 29 (by decide))) ⟨(show fr + 1 ≤ fr + 1 by omega), (show 8 + (4 + 11) + (lo) ≤ lo + 60 by omega)⟩ rfl rfl (Nat.le_of_ble_eq_true rfl) dX5_readCondition_64 (fun H locs hW hS => ?_)
        clear hq
        replace h := z_bd2 h
        obtain ⟨r11, u12, hq, h⟩ := h
        refine z_cvi (As := [.int (6 : Int32), .int x4, .int r9]) C0 hml hl.1 hW hS (c_X5_node l D A b g hs (6 : Int32) x4 r9 u10 hq) mv_X5_76 (zk1 (hs 29 (by decide))) ⟨(show 0 + 1 ≤ fr + 1 by omega), (show 8 + (4 + 11) + (0) ≤ lo + 60 by omega)⟩ rfl rfl (Nat.le_of_ble_eq_true rfl) dX5_readCondition_67 (fun H locs hW hS => ?_)
        clear hq
        refine lv_istore (lv' := [(4, .int r11), (0, .ref (b + 29)), (1, .int x1), (2, .int x2), (3, .int x3), (5, .int x5)]) hx hb dX5_readCondition_70 hl (by decide) rfl (fun ls hl => ?_)
        refine lv_iinc (v := x5 + (1 : Int32)) (lv' := [(5, .int (x5 + (1 : Int32))), (4, .int r11), (0, .ref (b + 29)), (1, .int x1), (2, .int x2), (3, .int x3)]) hx hb dX5_readCondition_72 hl (k := 5) rfl rfl (by decide) rfl (fun ls hl => ?_)
        refine lv_goto (tgt := 37) hx hb dX5_readCondition_75 (by decide) ?_
        exact ih _ _ _ _ _ _ _ _ _ h hW hS (lv_sub hl [2, 3, 4, 5, 1, 0] rfl)
set_option maxRecDepth 100000 in
set_option maxHeartbeats 4000000 in
theorem l_X5_readCondition_4 {l : Launch} {D : zD} {A : Nat → Prop} {b : Nat} {p : Program} {e : Env} {s : State} {m : MethodId} {args : Array Value} {below : List Frame} {meth : Method} {c : Code} {g : zG} {v : Int32} {u' : zU} (C0 : z_C p c cX5_readCondition s m args yX5_readCondition.cls D A) (hr : meth.sig.returnType = (some .int)) (hml : c.maxLocals = 6) (hlk : meth.locks = false) (hs : zSt g) {fr lo : Nat} (hfr : 12 ≤ fr) (hlo : 400 ≤ lo) {KA : Int32 → zU → Option (Int32 × zU)} (hA : ∀ (p0 : Int32) (u : zU) (v : Int32) (u' : zU), KA p0 u = some (v, u') → z_M l D A b g yX5_readAtom cX5_readAtom 4 (some .int) fr lo [.ref (b + 29), .int p0] u (some (.int v)) u') : ∀ (n : Nat) (x1 : Int32) (x2 : Int32) (x3 : Int32) (u : zU) (H : Heap) (locs : List Loc) (ls : Array Slot), f_X5_readCondition_4 KA n x1 x2 x3 u = some (v, u') → z_W D A b g u H → va_S A s.heap H locs → lv_has ls 6 [(0, .ref (b + 29)), (1, .int x1), (2, .int x2), (3, .int x3)] → W p l e { frames := fr + 1, cells := 0, slots := 0, locals := lo + 60 } s m args below meth c H locs 0 0 (z_End D A b g below args s (some (.int v)) u') (F0 m 4 ls []) := by
  have hx := C0.1
  have hb := C0.2.1
  intro n
  induction n with
  | zero => intro x1 x2 x3 u H locs ls h hW hS hl; cases h
  | succ n ih =>
    intro x1 x2 x3 u H locs ls h hW hS hl
    rw [f_X5_readCondition_4_s] at h
    refine lv_iload_n hx hb dX5_readCondition_4 rfl (lv_at hl 3 rfl) ?_
    refine lv_if_eq (tgt := 27) hx hb dX5_readCondition_5 (by decide) (fun hc => ?_) (fun hc => ?_)
    · replace h := z_t h hc
      clear hc
      refine lv_aload_n hx hb dX5_readCondition_27 rfl (lv_at hl 0 rfl) ?_
      refine lv_iload_n hx hb dX5_readCondition_28 rfl (lv_at hl 1 rfl) ?_
      replace h := z_bd2 h
      obtain ⟨r1, u2, hq, h⟩ := h
      refine z_cvi (As := [.int x1]) C0 hml hl.1 hW hS (hA _ _ _ _ hq) mv_X5_69 (zk1 (hs 29 (by decide))) ⟨(show fr + 1 ≤ fr + 1 by omega), (show 8 + (4 + 11) + (lo) ≤ lo + 60 by omega)⟩ rfl rfl (Nat.le_of_ble_eq_true rfl) dX5_readCondition_29 (fun H locs hW hS => ?_)
      clear hq
      refine lv_istore (lv' := [(4, .int r1), (0, .ref (b + 29)), (1, .int x1), (2, .int x2), (3, .int x3)]) hx hb dX5_readCondition_32 hl (by decide) rfl (fun ls hl => ?_)
      refine lv_iconst (v := (0 : Int32)) hx hb dX5_readCondition_34 (by decide) ?_
      refine lv_istore (lv' := [(5, .int (0 : Int32)), (4, .int r1), (0, .ref (b + 29)), (1, .int x1), (2, .int x2), (3, .int x3)]) hx hb dX5_readCondition_35 hl (by decide) rfl (fun ls hl => ?_)
      exact l_X5_readCondition_37 C0 hr hml hlk hs hfr hlo hA (fun q0 q1 q2 q3 q4 q5 q6 h hW hS hl => ih q0 q1 q2 q3 q4 q5 q6 h hW hS hl) 5000 _ _ _ _ _ _ _ _ _ h hW hS (lv_sub hl [2, 3, 4, 5, 1, 0] rfl)
    · replace h := z_f h hc
      clear hc
      refine lv_iload_n hx hb dX5_readCondition_8 rfl (lv_at hl 3 rfl) ?_
      refine lv_sipush (v := (400 : Int32)) hx hb dX5_readCondition_9 (by decide) ?_
      refine lv_icmp_ge (tgt := 103) hx hb dX5_readCondition_12 (by decide) (fun hc => ?_) (fun hc => ?_)
      · replace h := z_t h hc
        clear hc
        refine lv_iload_n hx hb dX5_readCondition_103 rfl (lv_at hl 2 rfl) ?_
        cases h
        exact z_iret C0 hr hlk hW hS dX5_readCondition_104
      · replace h := z_f h hc
        clear hc
        refine lv_aload_n hx hb dX5_readCondition_15 rfl (lv_at hl 0 rfl) ?_
        refine z_getr (o := 3) C0 hW fl_X5_37 (zk1 (hs 29 (by decide))) rfl (zk3 (hs 29 (by decide)) 0) dX5_readCondition_16 ?_
        refine z_ldcS (k := 33) (tx := "or") C0 (List.mem_of_getElem? (i := 33) rfl) dX5_readCondition_19 ?_
        replace h := z_bd2 h
        obtain ⟨t13, u14, hq, h⟩ := h
        refine z_cvi (As := [.ref (sA D 33)]) C0 hml hl.1 hW hS (c_X8_takes l D A b g hs 33 (by decide) u hq) mv_X5_43 (zk1 (hs 3 (by decide))) ⟨(show 4 + 1 ≤ fr + 1 by omega), (show 8 + (5 + 11) + (85) ≤ lo + 60 by omega)⟩ rfl rfl (Nat.le_of_ble_eq_true rfl) dX5_readCondition_21 (fun H locs hW hS => ?_)
        clear hq
        refine z_ifeqZ C0 (tgt := 103) dX5_readCondition_24 (by decide) (fun hc => ?_) (fun hc => ?_)
        · replace h := z_ff h hc
          clear hc
          refine lv_iload_n hx hb dX5_readCondition_103 rfl (lv_at hl 2 rfl) ?_
          cases h
          exact z_iret C0 hr hlk hW hS dX5_readCondition_104
        · replace h := z_t h hc
          clear hc
          refine lv_aload_n hx hb dX5_readCondition_27 rfl (lv_at hl 0 rfl) ?_
          refine lv_iload_n hx hb dX5_readCondition_28 rfl (lv_at hl 1 rfl) ?_
          replace h := z_bd2 h
          obtain ⟨r15, u16, hq, h⟩ := h
          refine z_cvi (As := [.int x1]) C0 hml hl.1 hW hS (hA _ _ _ _ hq) mv_X5_69 (zk1 (hs 29 (by decide))) ⟨(show fr + 1 ≤ fr + 1 by omega), (show 8 + (4 + 11) + (lo) ≤ lo + 60 by omega)⟩ rfl rfl (Nat.le_of_ble_eq_true rfl) dX5_readCondition_29 (fun H locs hW hS => ?_)
          clear hq
          refine lv_istore (lv' := [(4, .int r15), (0, .ref (b + 29)), (1, .int x1), (2, .int x2), (3, .int x3)]) hx hb dX5_readCondition_32 hl (by decide) rfl (fun ls hl => ?_)
          refine lv_iconst (v := (0 : Int32)) hx hb dX5_readCondition_34 (by decide) ?_
          refine lv_istore (lv' := [(5, .int (0 : Int32)), (4, .int r15), (0, .ref (b + 29)), (1, .int x1), (2, .int x2), (3, .int x3)]) hx hb dX5_readCondition_35 hl (by decide) rfl (fun ls hl => ?_)
          exact l_X5_readCondition_37 C0 hr hml hlk hs hfr hlo hA (fun q0 q1 q2 q3 q4 q5 q6 h hW hS hl => ih q0 q1 q2 q3 q4 q5 q6 h hW hS hl) 5000 _ _ _ _ _ _ _ _ _ h hW hS (lv_sub hl [2, 3, 4, 5, 1, 0] rfl)
theorem f_X5_readCondition_e (KA : Int32 → zU → Option (Int32 × zU)) (a1 : Int32) (u : zU) : f_X5_readCondition KA a1 u = f_X5_readCondition_4 KA 5000 a1 (-1 : Int32) (0 : Int32) u := rfl
set_option maxRecDepth 100000 in
set_option maxHeartbeats 4000000 in
theorem c_X5_readCondition (l : Launch) (D : zD) (A : Nat → Prop) (b : Nat) (g : zG) (hs : zSt g) {fr lo : Nat} (hfr : 12 ≤ fr) (hlo : 400 ≤ lo) {KA : Int32 → zU → Option (Int32 × zU)} (hA : ∀ (p0 : Int32) (u : zU) (v : Int32) (u' : zU), KA p0 u = some (v, u') → z_M l D A b g yX5_readAtom cX5_readAtom 4 (some .int) fr lo [.ref (b + 29), .int p0] u (some (.int v)) u') (a1 : Int32) (u : zU) {v : Int32} {u' : zU} (h : f_X5_readCondition KA a1 u = some (v, u')) : z_M l D A b g yX5_readCondition cX5_readCondition 6 (some .int) (fr + 1) (lo + 60) [.ref (b + 29), .int a1] u (some (.int v)) u' := by
  refine z_enter (by decide) (Nat.le_of_ble_eq_true rfl) ?_
  intro p e s m below meth c ls C0 hr hml hlk hW hS hl
  have hl : lv_has ls 6 [(0, .ref (b + 29)), (1, .int a1)] := hl
  have hx := C0.1
  have hb := C0.2.1
  rw [f_X5_readCondition_e] at h
  refine lv_iconst (v := (-1 : Int32)) hx hb dX5_readCondition_0 (by decide) ?_
  refine lv_istore_n (lv' := [(2, .int (-1 : Int32)), (0, .ref (b + 29)), (1, .int a1)]) hx hb dX5_readCondition_1 rfl hl (by decide) rfl (fun ls hl => ?_)
  refine lv_iconst (v := (0 : Int32)) hx hb dX5_readCondition_2 (by decide) ?_
  refine lv_istore_n (lv' := [(3, .int (0 : Int32)), (2, .int (-1 : Int32)), (0, .ref (b + 29)), (1, .int a1)]) hx hb dX5_readCondition_3 rfl hl (by decide) rfl (fun ls hl => ?_)
  exact l_X5_readCondition_4 C0 hr hml hlk hs hfr hlo hA 5000 _ _ _ _ _ _ _ h hW hS (lv_sub hl [2, 3, 1, 0] rfl)
