def f_X11_draw (a1 : Int32) (u : zU) : Option (Int32 × zU) :=
  z_let (z_up u 1 12 (((1103515245 : Int32) * (u 1 12)) + (12345 : Int32))) (fun u1 => if ¬ a1 = 0 then (some (z_rem ((z_ushr (u1 1 12) (16 : Int32)) &&& (32767 : Int32)) a1, u1)) else none)
theorem f_X11_draw_e (a1 : Int32) (u : zU) : f_X11_draw a1 u = z_let (z_up u 1 12 (((1103515245 : Int32) * (u 1 12)) + (12345 : Int32))) (fun u1 => if ¬ a1 = 0 then (some (z_rem ((z_ushr (u1 1 12) (16 : Int32)) &&& (32767 : Int32)) a1, u1)) else none) := rfl
set_option maxRecDepth 100000 in
set_option maxHeartbeats 4000000 in
theorem c_X11_draw (l : Launch) (D : zD) (A : Nat → Prop) (b : Nat) (a1 : Int32) (u : zU) {v : Int32} {u' : zU} (h : f_X11_draw a1 u = some (v, u')) : z_M l D A b gM yX11_draw cX11_draw 2 (some .int) 0 0 [.ref (b + 0), .int a1] u (some (.int v)) u' := by
  refine z_enter (by decide) (Nat.le_of_ble_eq_true rfl) ?_
  intro p e s m below meth c ls C0 hr hml hlk hW hS hl
  have hl : lv_has ls 2 [(0, .ref (b + 0)), (1, .int a1)] := hl
  have hx := C0.1
  have hb := C0.2.1
  rw [f_X11_draw_e] at h
  refine lv_aload_n hx hb dX11_draw_0 rfl (lv_at hl 0 rfl) ?_
  refine z_getr (o := 1) C0 hW fl_X11_7 rfl rfl rfl dX11_draw_1 ?_
  refine lv_bipush (v := (12 : Int32)) hx hb dX11_draw_4 (by decide) ?_
  refine lv_ldcw (own := yX11_draw.cls) (v := (1103515245 : Int32)) hx hb C0.2.2.2.1 (C0.2.2.1 _ k_X11_261) dX11_draw_6 ?_
  refine lv_aload_n hx hb dX11_draw_9 rfl (lv_at hl 0 rfl) ?_
  refine z_getr (o := 1) C0 hW fl_X11_7 rfl rfl rfl dX11_draw_10 ?_
  refine lv_bipush (v := (12 : Int32)) hx hb dX11_draw_13 (by decide) ?_
  refine z_iald (k := 12) C0 hW rfl rfl (by decide) (by decide) dX11_draw_15 ?_
  refine lv_imul hx hb dX11_draw_16 ?_
  refine lv_sipush (v := (12345 : Int32)) hx hb dX11_draw_17 (by decide) ?_
  refine lv_iadd hx hb dX11_draw_20 ?_
  refine z_iast (k := 12) C0 hW hS rfl rfl (by decide) (by decide) dX11_draw_21 (fun H locs u1 e1 hW hS => ?_)
  have h := z_ly h e1
  clear e1
  refine lv_aload_n hx hb dX11_draw_22 rfl (lv_at hl 0 rfl) ?_
  refine z_getr (o := 1) C0 hW fl_X11_7 rfl rfl rfl dX11_draw_23 ?_
  refine lv_bipush (v := (12 : Int32)) hx hb dX11_draw_26 (by decide) ?_
  refine z_iald (k := 12) C0 hW rfl rfl (by decide) (by decide) dX11_draw_28 ?_
  refine lv_bipush (v := (16 : Int32)) hx hb dX11_draw_29 (by decide) ?_
  refine lv_iushr (v := z_ushr (u1 1 12) (16 : Int32)) hx hb dX11_draw_31 rfl ?_
  refine lv_sipush (v := (32767 : Int32)) hx hb dX11_draw_32 (by decide) ?_
  refine lv_iand hx hb dX11_draw_35 ?_
  refine lv_iload_n hx hb dX11_draw_36 rfl (lv_at hl 1 rfl) ?_
  obtain ⟨hne, h⟩ := z_if h
  refine lv_irem hx hb dX11_draw_37 hne ?_
  clear hne
  cases h
  exact z_iret C0 hr hlk hW hS dX11_draw_38
def f_X11_firstWaiting_2 : Nat → Int32 → zU → Option (Int32)
  | 0, _, _ => none
  | n + 1, x1, u =>
    if (u 1 10) ≤ x1 then (some (-1 : Int32)) else (if z_in ((57 : Int32) + x1) 705 = true then (z_let (u 1 ((57 : Int32) + x1).toNatClampNeg) (fun z1 => (f_X11_of z1 (2 : Int32) u).bind (fun r2 => if r2 ≤ 0 then (f_X11_firstWaiting_2 n (x1 + (1 : Int32)) u) else (if z_in ((57 : Int32) + x1) 705 = true then (z_let (u 1 ((57 : Int32) + x1).toNatClampNeg) (fun z3 => some z3)) else none)))) else none)
theorem f_X11_firstWaiting_2_s (n : Nat) (x1 : Int32) (u : zU) : f_X11_firstWaiting_2 (n + 1) x1 u = if (u 1 10) ≤ x1 then (some (-1 : Int32)) else (if z_in ((57 : Int32) + x1) 705 = true then (z_let (u 1 ((57 : Int32) + x1).toNatClampNeg) (fun z1 => (f_X11_of z1 (2 : Int32) u).bind (fun r2 => if r2 ≤ 0 then (f_X11_firstWaiting_2 n (x1 + (1 : Int32)) u) else (if z_in ((57 : Int32) + x1) 705 = true then (z_let (u 1 ((57 : Int32) + x1).toNatClampNeg) (fun z3 => some z3)) else none)))) else none) := rfl
def f_X11_firstWaiting  (u : zU) : Option (Int32) :=
  f_X11_firstWaiting_2 5000 (0 : Int32) u
set_option maxRecDepth 100000 in
set_option maxHeartbeats 4000000 in
theorem l_X11_firstWaiting_2 {l : Launch} {D : zD} {A : Nat → Prop} {b : Nat} {p : Program} {e : Env} {s : State} {m : MethodId} {args : Array Value} {below : List Frame} {meth : Method} {c : Code} {v : Int32} {u : zU} (C0 : z_C p c cX11_firstWaiting s m args yX11_firstWaiting.cls D) (hr : meth.sig.returnType = (some .int)) (hml : c.maxLocals = 2) (hlk : meth.locks = false) : ∀ (n : Nat) (x1 : Int32) (H : Heap) (locs : List Loc) (ls : Array Slot), f_X11_firstWaiting_2 n x1 u = some v → z_W D A b gM u H → va_S A s.heap H locs → lv_has ls 2 [(0, .ref (b + 0)), (1, .int x1)] → W p l e { frames := 1, cells := 0, slots := 0, locals := 22 } s m args below meth c H locs 0 0 (z_End D A b gM below args s (some (.int v)) u) (F0 m 2 ls []) := by
  have hx := C0.1
  have hb := C0.2.1
  intro n
  induction n with
  | zero => intro x1  H locs ls h hW hS hl; cases h
  | succ n ih =>
    intro x1  H locs ls h hW hS hl
    rw [f_X11_firstWaiting_2_s] at h
    refine lv_iload_n hx hb dX11_firstWaiting_2 rfl (lv_at hl 1 rfl) ?_
    refine lv_aload_n hx hb dX11_firstWaiting_3 rfl (lv_at hl 0 rfl) ?_
    refine z_getr (o := 1) C0 hW fl_X11_7 rfl rfl rfl dX11_firstWaiting_4 ?_
    refine lv_bipush (v := (10 : Int32)) hx hb dX11_firstWaiting_7 (by decide) ?_
    refine z_iald (k := 10) C0 hW rfl rfl (by decide) (by decide) dX11_firstWaiting_9 ?_
    refine lv_icmp_ge (tgt := 46) hx hb dX11_firstWaiting_10 (by decide) (fun hc => ?_) (fun hc => ?_)
    · have h := z_t h hc
      clear hc
      refine lv_iconst (v := (-1 : Int32)) hx hb dX11_firstWaiting_46 (by decide) ?_
      cases h
      exact z_iret C0 hr hlk hW hS dX11_firstWaiting_47
    · have h := z_f h hc
      clear hc
      refine lv_aload_n hx hb dX11_firstWaiting_13 rfl (lv_at hl 0 rfl) ?_
      refine lv_aload_n hx hb dX11_firstWaiting_14 rfl (lv_at hl 0 rfl) ?_
      refine z_getr (o := 1) C0 hW fl_X11_7 rfl rfl rfl dX11_firstWaiting_15 ?_
      refine lv_bipush (v := (57 : Int32)) hx hb dX11_firstWaiting_18 (by decide) ?_
      refine lv_iload_n hx hb dX11_firstWaiting_20 rfl (lv_at hl 1 rfl) ?_
      refine lv_iadd hx hb dX11_firstWaiting_21 ?_
      obtain ⟨hin, h⟩ := z_if h
      refine z_iald C0 hW rfl rfl hin rfl dX11_firstWaiting_22 ?_
      clear hin
      refine lv_topi (fun z1 e1 => ?_)
      have h := z_ly h e1
      clear e1
      refine lv_iconst (v := (2 : Int32)) hx hb dX11_firstWaiting_23 (by decide) ?_
      obtain ⟨r2, hq, h⟩ := z_bd h
      refine z_cvi (As := [.int z1, .int (2 : Int32)]) C0 hml hl.1 hW hS (c_X11_of l D A b z1 (2 : Int32) u hq) mv_X11_49 rfl ⟨Nat.le_of_ble_eq_true rfl, Nat.le_of_ble_eq_true rfl⟩ rfl rfl (Nat.le_of_ble_eq_true rfl) dX11_firstWaiting_24 (fun H locs hW hS => ?_)
      clear hq
      refine lv_if_le (tgt := 40) hx hb dX11_firstWaiting_27 (by decide) (fun hc => ?_) (fun hc => ?_)
      · have h := z_t h hc
        clear hc
        refine lv_iinc (v := x1 + (1 : Int32)) (lv' := [(1, .int (x1 + (1 : Int32))), (0, .ref (b + 0))]) hx hb dX11_firstWaiting_40 hl (k := 1) rfl rfl (by decide) rfl (fun ls hl => ?_)
        refine lv_goto (tgt := 2) hx hb dX11_firstWaiting_43 (by decide) ?_
        exact ih _ _ _ _ h hW hS (lv_sub hl [1, 0] rfl)
      · have h := z_f h hc
        clear hc
        refine lv_aload_n hx hb dX11_firstWaiting_30 rfl (lv_at hl 0 rfl) ?_
        refine z_getr (o := 1) C0 hW fl_X11_7 rfl rfl rfl dX11_firstWaiting_31 ?_
        refine lv_bipush (v := (57 : Int32)) hx hb dX11_firstWaiting_34 (by decide) ?_
        refine lv_iload_n hx hb dX11_firstWaiting_36 rfl (lv_at hl 1 rfl) ?_
        refine lv_iadd hx hb dX11_firstWaiting_37 ?_
        obtain ⟨hin, h⟩ := z_if h
        refine z_iald C0 hW rfl rfl hin rfl dX11_firstWaiting_38 ?_
        clear hin
        refine lv_topi (fun z3 e1 => ?_)
        have h := z_ly h e1
        clear e1
        cases h
        exact z_iret C0 hr hlk hW hS dX11_firstWaiting_39
theorem f_X11_firstWaiting_e  (u : zU) : f_X11_firstWaiting  u = f_X11_firstWaiting_2 5000 (0 : Int32) u := rfl
set_option maxRecDepth 100000 in
set_option maxHeartbeats 4000000 in
theorem c_X11_firstWaiting (l : Launch) (D : zD) (A : Nat → Prop) (b : Nat)  (u : zU) {v : Int32} (h : f_X11_firstWaiting  u = some v) : z_M l D A b gM yX11_firstWaiting cX11_firstWaiting 2 (some .int) 1 22 [.ref (b + 0)] u (some (.int v)) u := by
  refine z_enter (by decide) (Nat.le_of_ble_eq_true rfl) ?_
  intro p e s m below meth c ls C0 hr hml hlk hW hS hl
  have hl : lv_has ls 2 [(0, .ref (b + 0))] := hl
  have hx := C0.1
  have hb := C0.2.1
  rw [f_X11_firstWaiting_e] at h
  refine lv_iconst (v := (0 : Int32)) hx hb dX11_firstWaiting_0 (by decide) ?_
  refine lv_istore_n (lv' := [(1, .int (0 : Int32)), (0, .ref (b + 0))]) hx hb dX11_firstWaiting_1 rfl hl (by decide) rfl (fun ls hl => ?_)
  exact l_X11_firstWaiting_2 C0 hr hml hlk 5000 _ _ _ _ h hW hS (lv_sub hl [1, 0] rfl)
def f_X11_blows_72 : Nat → Int32 → Int32 → zU → Option (zU)
  | 0, _, _, _ => none
  | n + 1, x2, x3, u =>
    if (u 1 3) ≤ x3 then (some u) else (z_let (f_X11_isOf x2 x3 u) (fun t9 => if t9 = true then ((f_X11_queues x3 u).bind (fun u10 => f_X11_blows_72 n x2 (x3 + (1 : Int32)) u10)) else (f_X11_blows_72 n x2 (x3 + (1 : Int32)) u)))
theorem f_X11_blows_72_s (n : Nat) (x2 : Int32) (x3 : Int32) (u : zU) : f_X11_blows_72 (n + 1) x2 x3 u = if (u 1 3) ≤ x3 then (some u) else (z_let (f_X11_isOf x2 x3 u) (fun t9 => if t9 = true then ((f_X11_queues x3 u).bind (fun u10 => f_X11_blows_72 n x2 (x3 + (1 : Int32)) u10)) else (f_X11_blows_72 n x2 (x3 + (1 : Int32)) u))) := rfl
def f_X11_blows  (u : zU) : Option (zU) :=
  z_b2 (f_X11_draw (100 : Int32) u) (fun r1 u2 => if r1 < (u2 1 8) then (z_b2 (f_X11_draw (8 : Int32) u2) (fun r3 u4 => if z_in ((17 : Int32) + r3) 705 = true then (z_let (u4 1 ((17 : Int32) + r3).toNatClampNeg) (fun z5 => z_let (f_X11_greater (0 : Int32) (z5 - (1 : Int32)) u4) (fun r6 => if z_in ((17 : Int32) + r3) 705 = true then (z_let (z_up u4 1 ((17 : Int32) + r3).toNatClampNeg r6) (fun u7 => if z_in ((17 : Int32) + r3) 705 = true then (z_let (u7 1 ((17 : Int32) + r3).toNatClampNeg) (fun z8 => if z8 = 0 then ((f_X11_those r3 u7).bind (fun r11 => f_X11_blows_72 5000 r11 (0 : Int32) u7)) else (f_X11_blows_72 5000 (0 : Int32) (0 : Int32) u7))) else none)) else none))) else none)) else (some u2))
set_option maxRecDepth 100000 in
set_option maxHeartbeats 4000000 in
theorem l_X11_blows_72 {l : Launch} {D : zD} {A : Nat → Prop} {b : Nat} {p : Program} {e : Env} {s : State} {m : MethodId} {args : Array Value} {below : List Frame} {meth : Method} {c : Code} {u' : zU} (C0 : z_C p c cX11_blows s m args yX11_blows.cls D) (hr : meth.sig.returnType = none) (hml : c.maxLocals = 4) (hlk : meth.locks = false) : ∀ (n : Nat) (x2 : Int32) (x3 : Int32) (u : zU) (H : Heap) (locs : List Loc) (ls : Array Slot), f_X11_blows_72 n x2 x3 u = some u' → z_W D A b gM u H → va_S A s.heap H locs → lv_has ls 4 [(0, .ref (b + 0)), (2, .int x2), (3, .int x3)] → W p l e { frames := 2, cells := 0, slots := 0, locals := 45 } s m args below meth c H locs 0 0 (z_End D A b gM below args s none u') (F0 m 72 ls []) := by
  have hx := C0.1
  have hb := C0.2.1
  intro n
  induction n with
  | zero => intro x2 x3 u H locs ls h hW hS hl; cases h
  | succ n ih =>
    intro x2 x3 u H locs ls h hW hS hl
    rw [f_X11_blows_72_s] at h
    refine lv_iload_n hx hb dX11_blows_72 rfl (lv_at hl 2 rfl) ?_
    refine lv_aload_n hx hb dX11_blows_73 rfl (lv_at hl 0 rfl) ?_
    refine z_getr (o := 1) C0 hW fl_X11_7 rfl rfl rfl dX11_blows_74 ?_
    refine lv_iconst (v := (3 : Int32)) hx hb dX11_blows_77 (by decide) ?_
    refine z_iald (k := 3) C0 hW rfl rfl (by decide) (by decide) dX11_blows_78 ?_
    refine lv_icmp_ge (tgt := 101) hx hb dX11_blows_79 (by decide) (fun hc => ?_) (fun hc => ?_)
    · have h := z_t h hc
      clear hc
      cases h
      exact z_vret C0 hr hlk hW hS dX11_blows_101
    · have h := z_f h hc
      clear hc
      refine lv_iload_n hx hb dX11_blows_82 rfl (lv_at hl 1 rfl) ?_
      refine lv_iload_n hx hb dX11_blows_83 rfl (lv_at hl 2 rfl) ?_
      obtain ⟨t9, hq⟩ : ∃ y, f_X11_isOf x2 x3 u = y := ⟨_, rfl⟩
      have h := z_lz h hq
      refine z_csi (As := [.int x2, .int x3]) C0 hml hl.1 hW hS (c_X11_isOf l D A b x2 x3 u hq) ms_X11_262 ⟨Nat.le_of_ble_eq_true rfl, Nat.le_of_ble_eq_true rfl⟩ rfl rfl (Nat.le_of_ble_eq_true rfl) dX11_blows_84 (fun H locs hW hS => ?_)
      clear hq
      refine z_ifeqZ C0 (tgt := 95) dX11_blows_87 (by decide) (fun hc => ?_) (fun hc => ?_)
      · have h := z_ff h hc
        clear hc
        refine lv_iinc (v := x3 + (1 : Int32)) (lv' := [(3, .int (x3 + (1 : Int32))), (0, .ref (b + 0)), (2, .int x2)]) hx hb dX11_blows_95 hl (k := 2) rfl rfl (by decide) rfl (fun ls hl => ?_)
        refine lv_goto (tgt := 72) hx hb dX11_blows_98 (by decide) ?_
        exact ih _ _ _ _ _ _ h hW hS (lv_sub hl [1, 2, 0] rfl)
      · have h := z_t h hc
        clear hc
        refine lv_aload_n hx hb dX11_blows_90 rfl (lv_at hl 0 rfl) ?_
        refine lv_iload_n hx hb dX11_blows_91 rfl (lv_at hl 2 rfl) ?_
        obtain ⟨u10, hq, h⟩ := z_bd h
        refine z_cvv (As := [.int x3]) C0 hml hl.1 hW hS (c_X11_queues l D A b x3 u hq) mv_X11_131 rfl ⟨Nat.le_of_ble_eq_true rfl, Nat.le_of_ble_eq_true rfl⟩ rfl rfl (Nat.le_of_ble_eq_true rfl) dX11_blows_92 (fun H locs hW hS => ?_)
        clear hq
        refine lv_iinc (v := x3 + (1 : Int32)) (lv' := [(3, .int (x3 + (1 : Int32))), (0, .ref (b + 0)), (2, .int x2)]) hx hb dX11_blows_95 hl (k := 2) rfl rfl (by decide) rfl (fun ls hl => ?_)
        refine lv_goto (tgt := 72) hx hb dX11_blows_98 (by decide) ?_
        exact ih _ _ _ _ _ _ h hW hS (lv_sub hl [1, 2, 0] rfl)
theorem f_X11_blows_e  (u : zU) : f_X11_blows  u = z_b2 (f_X11_draw (100 : Int32) u) (fun r1 u2 => if r1 < (u2 1 8) then (z_b2 (f_X11_draw (8 : Int32) u2) (fun r3 u4 => if z_in ((17 : Int32) + r3) 705 = true then (z_let (u4 1 ((17 : Int32) + r3).toNatClampNeg) (fun z5 => z_let (f_X11_greater (0 : Int32) (z5 - (1 : Int32)) u4) (fun r6 => if z_in ((17 : Int32) + r3) 705 = true then (z_let (z_up u4 1 ((17 : Int32) + r3).toNatClampNeg r6) (fun u7 => if z_in ((17 : Int32) + r3) 705 = true then (z_let (u7 1 ((17 : Int32) + r3).toNatClampNeg) (fun z8 => if z8 = 0 then ((f_X11_those r3 u7).bind (fun r11 => f_X11_blows_72 5000 r11 (0 : Int32) u7)) else (f_X11_blows_72 5000 (0 : Int32) (0 : Int32) u7))) else none)) else none))) else none)) else (some u2)) := rfl
set_option maxRecDepth 100000 in
set_option maxHeartbeats 4000000 in
theorem c_X11_blows (l : Launch) (D : zD) (A : Nat → Prop) (b : Nat)  (u : zU) {u' : zU} (h : f_X11_blows  u = some u') : z_M l D A b gM yX11_blows cX11_blows 4 none 2 45 [.ref (b + 0)] u none u' := by
  refine z_enter (by decide) (Nat.le_of_ble_eq_true rfl) ?_
  intro p e s m below meth c ls C0 hr hml hlk hW hS hl
  have hl : lv_has ls 4 [(0, .ref (b + 0))] := hl
  have hx := C0.1
  have hb := C0.2.1
  rw [f_X11_blows_e] at h
  refine lv_aload_n hx hb dX11_blows_0 rfl (lv_at hl 0 rfl) ?_
  refine lv_bipush (v := (100 : Int32)) hx hb dX11_blows_1 (by decide) ?_
  obtain ⟨r1, u2, hq, h⟩ := z_bd2 h
  refine z_cvi (As := [.int (100 : Int32)]) C0 hml hl.1 hW hS (c_X11_draw l D A b (100 : Int32) u hq) mv_X11_269 rfl ⟨Nat.le_of_ble_eq_true rfl, Nat.le_of_ble_eq_true rfl⟩ rfl rfl (Nat.le_of_ble_eq_true rfl) dX11_blows_3 (fun H locs hW hS => ?_)
  clear hq
  refine lv_aload_n hx hb dX11_blows_6 rfl (lv_at hl 0 rfl) ?_
  refine z_getr (o := 1) C0 hW fl_X11_7 rfl rfl rfl dX11_blows_7 ?_
  refine lv_bipush (v := (8 : Int32)) hx hb dX11_blows_10 (by decide) ?_
  refine z_iald (k := 8) C0 hW rfl rfl (by decide) (by decide) dX11_blows_12 ?_
  refine lv_icmp_lt (tgt := 17) hx hb dX11_blows_13 (by decide) (fun hc => ?_) (fun hc => ?_)
  · have h := z_t h hc
    clear hc
    refine lv_aload_n hx hb dX11_blows_17 rfl (lv_at hl 0 rfl) ?_
    refine lv_bipush (v := (8 : Int32)) hx hb dX11_blows_18 (by decide) ?_
    obtain ⟨r3, u4, hq, h⟩ := z_bd2 h
    refine z_cvi (As := [.int (8 : Int32)]) C0 hml hl.1 hW hS (c_X11_draw l D A b (8 : Int32) u2 hq) mv_X11_269 rfl ⟨Nat.le_of_ble_eq_true rfl, Nat.le_of_ble_eq_true rfl⟩ rfl rfl (Nat.le_of_ble_eq_true rfl) dX11_blows_20 (fun H locs hW hS => ?_)
    clear hq
    refine lv_istore_n (lv' := [(1, .int r3), (0, .ref (b + 0))]) hx hb dX11_blows_23 rfl hl (by decide) rfl (fun ls hl => ?_)
    refine lv_aload_n hx hb dX11_blows_24 rfl (lv_at hl 1 rfl) ?_
    refine z_getr (o := 1) C0 hW fl_X11_7 rfl rfl rfl dX11_blows_25 ?_
    refine lv_bipush (v := (17 : Int32)) hx hb dX11_blows_28 (by decide) ?_
    refine lv_iload_n hx hb dX11_blows_30 rfl (lv_at hl 0 rfl) ?_
    refine lv_iadd hx hb dX11_blows_31 ?_
    refine lv_iconst (v := (0 : Int32)) hx hb dX11_blows_32 (by decide) ?_
    refine lv_aload_n hx hb dX11_blows_33 rfl (lv_at hl 1 rfl) ?_
    refine z_getr (o := 1) C0 hW fl_X11_7 rfl rfl rfl dX11_blows_34 ?_
    refine lv_bipush (v := (17 : Int32)) hx hb dX11_blows_37 (by decide) ?_
    refine lv_iload_n hx hb dX11_blows_39 rfl (lv_at hl 0 rfl) ?_
    refine lv_iadd hx hb dX11_blows_40 ?_
    obtain ⟨hin, h⟩ := z_if h
    refine z_iald C0 hW rfl rfl hin rfl dX11_blows_41 ?_
    clear hin
    refine lv_topi (fun z5 e1 => ?_)
    have h := z_ly h e1
    clear e1
    refine lv_iconst (v := (1 : Int32)) hx hb dX11_blows_42 (by decide) ?_
    refine lv_isub hx hb dX11_blows_43 ?_
    obtain ⟨r6, hq⟩ : ∃ y, f_X11_greater (0 : Int32) (z5 - (1 : Int32)) u4 = y := ⟨_, rfl⟩
    have h := z_lz h hq
    refine z_csi (As := [.int (0 : Int32), .int (z5 - (1 : Int32))]) C0 hml hl.1 hW hS (c_X11_greater l D A b (0 : Int32) (z5 - (1 : Int32)) u4 hq) ms_X11_258 ⟨Nat.le_of_ble_eq_true rfl, Nat.le_of_ble_eq_true rfl⟩ rfl rfl (Nat.le_of_ble_eq_true rfl) dX11_blows_44 (fun H locs hW hS => ?_)
    clear hq
    obtain ⟨hin, h⟩ := z_if h
    refine z_iast C0 hW hS rfl rfl hin rfl dX11_blows_47 (fun H locs u7 e1 hW hS => ?_)
    have h := z_ly h e1
    clear e1
    refine lv_aload_n hx hb dX11_blows_48 rfl (lv_at hl 1 rfl) ?_
    refine z_getr (o := 1) C0 hW fl_X11_7 rfl rfl rfl dX11_blows_49 ?_
    refine lv_bipush (v := (17 : Int32)) hx hb dX11_blows_52 (by decide) ?_
    refine lv_iload_n hx hb dX11_blows_54 rfl (lv_at hl 0 rfl) ?_
    refine lv_iadd hx hb dX11_blows_55 ?_
    obtain ⟨hin, h⟩ := z_if h
    refine z_iald C0 hW rfl rfl hin rfl dX11_blows_56 ?_
    clear hin
    refine lv_topi (fun z8 e1 => ?_)
    have h := z_ly h e1
    clear e1
    refine lv_if_ne (tgt := 68) hx hb dX11_blows_57 (by decide) (fun hc => ?_) (fun hc => ?_)
    · have h := z_f h hc
      clear hc
      refine lv_iconst (v := (0 : Int32)) hx hb dX11_blows_68 (by decide) ?_
      refine lv_istore_n (lv' := [(2, .int (0 : Int32)), (1, .int r3), (0, .ref (b + 0))]) hx hb dX11_blows_69 rfl hl (by decide) rfl (fun ls hl => ?_)
      refine lv_iconst (v := (0 : Int32)) hx hb dX11_blows_70 (by decide) ?_
      refine lv_istore_n (lv' := [(3, .int (0 : Int32)), (2, .int (0 : Int32)), (1, .int r3), (0, .ref (b + 0))]) hx hb dX11_blows_71 rfl hl (by decide) rfl (fun ls hl => ?_)
      exact l_X11_blows_72 C0 hr hml hlk 5000 _ _ _ _ _ _ h hW hS (lv_sub hl [3, 1, 0] rfl)
    · have h := z_t h hc
      clear hc
      refine lv_aload_n hx hb dX11_blows_60 rfl (lv_at hl 1 rfl) ?_
      refine lv_iload_n hx hb dX11_blows_61 rfl (lv_at hl 0 rfl) ?_
      obtain ⟨r11, hq, h⟩ := z_bd h
      refine z_cvi (As := [.int r3]) C0 hml hl.1 hW hS (c_X11_those l D A b r3 u7 hq) mv_X11_53 rfl ⟨Nat.le_of_ble_eq_true rfl, Nat.le_of_ble_eq_true rfl⟩ rfl rfl (Nat.le_of_ble_eq_true rfl) dX11_blows_62 (fun H locs hW hS => ?_)
      clear hq
      refine lv_goto (tgt := 69) hx hb dX11_blows_65 (by decide) ?_
      refine lv_istore_n (lv' := [(2, .int r11), (1, .int r3), (0, .ref (b + 0))]) hx hb dX11_blows_69 rfl hl (by decide) rfl (fun ls hl => ?_)
      refine lv_iconst (v := (0 : Int32)) hx hb dX11_blows_70 (by decide) ?_
      refine lv_istore_n (lv' := [(3, .int (0 : Int32)), (2, .int r11), (1, .int r3), (0, .ref (b + 0))]) hx hb dX11_blows_71 rfl hl (by decide) rfl (fun ls hl => ?_)
      exact l_X11_blows_72 C0 hr hml hlk 5000 _ _ _ _ _ _ h hW hS (lv_sub hl [3, 1, 0] rfl)
  · have h := z_f h hc
    clear hc
    cases h
    exact z_vret C0 hr hlk hW hS dX11_blows_16
def f_X11_logs_4 : Nat → Int32 → Int32 → Int32 → zU → Option (zU)
  | 0, _, _, _, _ => none
  | n + 1, x1, x2, x3, u =>
    if x3 < (4 : Int32) then (z_let (z_up u 1 65 (u 1 9)) (fun u1 => z_let (z_up u1 1 66 (u1 1 4)) (fun u2 => z_let (z_up u2 1 67 x1) (fun u3 => z_let (z_up u3 1 68 x2) (fun u4 => z_let (f_X11_lesser (60 : Int32) ((u4 1 11) + (1 : Int32)) u4) (fun r5 => z_let (z_up u4 1 11 r5) (fun u6 => some u6))))))) else (if z_in (((65 : Int32) + x3) - (4 : Int32)) 705 = true then (z_let (u 1 (((65 : Int32) + x3) - (4 : Int32)).toNatClampNeg) (fun z7 => if z_in ((65 : Int32) + x3) 705 = true then (z_let (z_up u 1 ((65 : Int32) + x3).toNatClampNeg z7) (fun u8 => f_X11_logs_4 n x1 x2 (x3 + (-1 : Int32)) u8)) else none)) else none)
theorem f_X11_logs_4_s (n : Nat) (x1 : Int32) (x2 : Int32) (x3 : Int32) (u : zU) : f_X11_logs_4 (n + 1) x1 x2 x3 u = if x3 < (4 : Int32) then (z_let (z_up u 1 65 (u 1 9)) (fun u1 => z_let (z_up u1 1 66 (u1 1 4)) (fun u2 => z_let (z_up u2 1 67 x1) (fun u3 => z_let (z_up u3 1 68 x2) (fun u4 => z_let (f_X11_lesser (60 : Int32) ((u4 1 11) + (1 : Int32)) u4) (fun r5 => z_let (z_up u4 1 11 r5) (fun u6 => some u6))))))) else (if z_in (((65 : Int32) + x3) - (4 : Int32)) 705 = true then (z_let (u 1 (((65 : Int32) + x3) - (4 : Int32)).toNatClampNeg) (fun z7 => if z_in ((65 : Int32) + x3) 705 = true then (z_let (z_up u 1 ((65 : Int32) + x3).toNatClampNeg z7) (fun u8 => f_X11_logs_4 n x1 x2 (x3 + (-1 : Int32)) u8)) else none)) else none) := rfl
def f_X11_logs (a1 : Int32) (a2 : Int32) (u : zU) : Option (zU) :=
  f_X11_logs_4 5000 a1 a2 (239 : Int32) u
set_option maxRecDepth 100000 in
set_option maxHeartbeats 4000000 in
theorem l_X11_logs_4 {l : Launch} {D : zD} {A : Nat → Prop} {b : Nat} {p : Program} {e : Env} {s : State} {m : MethodId} {args : Array Value} {below : List Frame} {meth : Method} {c : Code} {u' : zU} (C0 : z_C p c cX11_logs s m args yX11_logs.cls D) (hr : meth.sig.returnType = none) (hml : c.maxLocals = 4) (hlk : meth.locks = false) : ∀ (n : Nat) (x1 : Int32) (x2 : Int32) (x3 : Int32) (u : zU) (H : Heap) (locs : List Loc) (ls : Array Slot), f_X11_logs_4 n x1 x2 x3 u = some u' → z_W D A b gM u H → va_S A s.heap H locs → lv_has ls 4 [(0, .ref (b + 0)), (1, .int x1), (2, .int x2), (3, .int x3)] → W p l e { frames := 1, cells := 0, slots := 0, locals := 21 } s m args below meth c H locs 0 0 (z_End D A b gM below args s none u') (F0 m 4 ls []) := by
  have hx := C0.1
  have hb := C0.2.1
  intro n
  induction n with
  | zero => intro x1 x2 x3 u H locs ls h hW hS hl; cases h
  | succ n ih =>
    intro x1 x2 x3 u H locs ls h hW hS hl
    rw [f_X11_logs_4_s] at h
    refine lv_iload_n hx hb dX11_logs_4 rfl (lv_at hl 3 rfl) ?_
    refine lv_iconst (v := (4 : Int32)) hx hb dX11_logs_5 (by decide) ?_
    refine lv_icmp_lt (tgt := 35) hx hb dX11_logs_6 (by decide) (fun hc => ?_) (fun hc => ?_)
    · have h := z_t h hc
      clear hc
      refine lv_aload_n hx hb dX11_logs_35 rfl (lv_at hl 0 rfl) ?_
      refine z_getr (o := 1) C0 hW fl_X11_7 rfl rfl rfl dX11_logs_36 ?_
      refine lv_bipush (v := (65 : Int32)) hx hb dX11_logs_39 (by decide) ?_
      refine lv_aload_n hx hb dX11_logs_41 rfl (lv_at hl 0 rfl) ?_
      refine z_getr (o := 1) C0 hW fl_X11_7 rfl rfl rfl dX11_logs_42 ?_
      refine lv_bipush (v := (9 : Int32)) hx hb dX11_logs_45 (by decide) ?_
      refine z_iald (k := 9) C0 hW rfl rfl (by decide) (by decide) dX11_logs_47 ?_
      refine z_iast (k := 65) C0 hW hS rfl rfl (by decide) (by decide) dX11_logs_48 (fun H locs u1 e1 hW hS => ?_)
      have h := z_ly h e1
      clear e1
      refine lv_aload_n hx hb dX11_logs_49 rfl (lv_at hl 0 rfl) ?_
      refine z_getr (o := 1) C0 hW fl_X11_7 rfl rfl rfl dX11_logs_50 ?_
      refine lv_bipush (v := (66 : Int32)) hx hb dX11_logs_53 (by decide) ?_
      refine lv_aload_n hx hb dX11_logs_55 rfl (lv_at hl 0 rfl) ?_
      refine z_getr (o := 1) C0 hW fl_X11_7 rfl rfl rfl dX11_logs_56 ?_
      refine lv_iconst (v := (4 : Int32)) hx hb dX11_logs_59 (by decide) ?_
      refine z_iald (k := 4) C0 hW rfl rfl (by decide) (by decide) dX11_logs_60 ?_
      refine z_iast (k := 66) C0 hW hS rfl rfl (by decide) (by decide) dX11_logs_61 (fun H locs u2 e1 hW hS => ?_)
      have h := z_ly h e1
      clear e1
      refine lv_aload_n hx hb dX11_logs_62 rfl (lv_at hl 0 rfl) ?_
      refine z_getr (o := 1) C0 hW fl_X11_7 rfl rfl rfl dX11_logs_63 ?_
      refine lv_bipush (v := (67 : Int32)) hx hb dX11_logs_66 (by decide) ?_
      refine lv_iload_n hx hb dX11_logs_68 rfl (lv_at hl 1 rfl) ?_
      refine z_iast (k := 67) C0 hW hS rfl rfl (by decide) (by decide) dX11_logs_69 (fun H locs u3 e1 hW hS => ?_)
      have h := z_ly h e1
      clear e1
      refine lv_aload_n hx hb dX11_logs_70 rfl (lv_at hl 0 rfl) ?_
      refine z_getr (o := 1) C0 hW fl_X11_7 rfl rfl rfl dX11_logs_71 ?_
      refine lv_bipush (v := (68 : Int32)) hx hb dX11_logs_74 (by decide) ?_
      refine lv_iload_n hx hb dX11_logs_76 rfl (lv_at hl 2 rfl) ?_
      refine z_iast (k := 68) C0 hW hS rfl rfl (by decide) (by decide) dX11_logs_77 (fun H locs u4 e1 hW hS => ?_)
      have h := z_ly h e1
      clear e1
      refine lv_aload_n hx hb dX11_logs_78 rfl (lv_at hl 0 rfl) ?_
      refine z_getr (o := 1) C0 hW fl_X11_7 rfl rfl rfl dX11_logs_79 ?_
      refine lv_bipush (v := (11 : Int32)) hx hb dX11_logs_82 (by decide) ?_
      refine lv_bipush (v := (60 : Int32)) hx hb dX11_logs_84 (by decide) ?_
      refine lv_aload_n hx hb dX11_logs_86 rfl (lv_at hl 0 rfl) ?_
      refine z_getr (o := 1) C0 hW fl_X11_7 rfl rfl rfl dX11_logs_87 ?_
      refine lv_bipush (v := (11 : Int32)) hx hb dX11_logs_90 (by decide) ?_
      refine z_iald (k := 11) C0 hW rfl rfl (by decide) (by decide) dX11_logs_92 ?_
      refine lv_iconst (v := (1 : Int32)) hx hb dX11_logs_93 (by decide) ?_
      refine lv_iadd hx hb dX11_logs_94 ?_
      obtain ⟨r5, hq⟩ : ∃ y, f_X11_lesser (60 : Int32) ((u4 1 11) + (1 : Int32)) u4 = y := ⟨_, rfl⟩
      have h := z_lz h hq
      refine z_csi (As := [.int (60 : Int32), .int ((u4 1 11) + (1 : Int32))]) C0 hml hl.1 hW hS (c_X11_lesser l D A b (60 : Int32) ((u4 1 11) + (1 : Int32)) u4 hq) ms_X11_63 ⟨Nat.le_of_ble_eq_true rfl, Nat.le_of_ble_eq_true rfl⟩ rfl rfl (Nat.le_of_ble_eq_true rfl) dX11_logs_95 (fun H locs hW hS => ?_)
      clear hq
      refine z_iast (k := 11) C0 hW hS rfl rfl (by decide) (by decide) dX11_logs_98 (fun H locs u6 e1 hW hS => ?_)
      have h := z_ly h e1
      clear e1
      cases h
      exact z_vret C0 hr hlk hW hS dX11_logs_99
    · have h := z_f h hc
      clear hc
      refine lv_aload_n hx hb dX11_logs_9 rfl (lv_at hl 0 rfl) ?_
      refine z_getr (o := 1) C0 hW fl_X11_7 rfl rfl rfl dX11_logs_10 ?_
      refine lv_bipush (v := (65 : Int32)) hx hb dX11_logs_13 (by decide) ?_
      refine lv_iload_n hx hb dX11_logs_15 rfl (lv_at hl 3 rfl) ?_
      refine lv_iadd hx hb dX11_logs_16 ?_
      refine lv_aload_n hx hb dX11_logs_17 rfl (lv_at hl 0 rfl) ?_
      refine z_getr (o := 1) C0 hW fl_X11_7 rfl rfl rfl dX11_logs_18 ?_
      refine lv_bipush (v := (65 : Int32)) hx hb dX11_logs_21 (by decide) ?_
      refine lv_iload_n hx hb dX11_logs_23 rfl (lv_at hl 3 rfl) ?_
      refine lv_iadd hx hb dX11_logs_24 ?_
      refine lv_iconst (v := (4 : Int32)) hx hb dX11_logs_25 (by decide) ?_
      refine lv_isub hx hb dX11_logs_26 ?_
      obtain ⟨hin, h⟩ := z_if h
      refine z_iald C0 hW rfl rfl hin rfl dX11_logs_27 ?_
      clear hin
      refine lv_topi (fun z7 e1 => ?_)
      have h := z_ly h e1
      clear e1
      obtain ⟨hin, h⟩ := z_if h
      refine z_iast C0 hW hS rfl rfl hin rfl dX11_logs_28 (fun H locs u8 e1 hW hS => ?_)
      have h := z_ly h e1
      clear e1
      refine lv_iinc (v := x3 + (-1 : Int32)) (lv' := [(3, .int (x3 + (-1 : Int32))), (0, .ref (b + 0)), (1, .int x1), (2, .int x2)]) hx hb dX11_logs_29 hl (k := 3) rfl rfl (by decide) rfl (fun ls hl => ?_)
      refine lv_goto (tgt := 4) hx hb dX11_logs_32 (by decide) ?_
      exact ih _ _ _ _ _ _ _ h hW hS (lv_sub hl [1, 2, 3, 0] rfl)
theorem f_X11_logs_e (a1 : Int32) (a2 : Int32) (u : zU) : f_X11_logs a1 a2 u = f_X11_logs_4 5000 a1 a2 (239 : Int32) u := rfl
set_option maxRecDepth 100000 in
set_option maxHeartbeats 4000000 in
theorem c_X11_logs (l : Launch) (D : zD) (A : Nat → Prop) (b : Nat) (a1 : Int32) (a2 : Int32) (u : zU) {u' : zU} (h : f_X11_logs a1 a2 u = some u') : z_M l D A b gM yX11_logs cX11_logs 4 none 1 21 [.ref (b + 0), .int a1, .int a2] u none u' := by
  refine z_enter (by decide) (Nat.le_of_ble_eq_true rfl) ?_
  intro p e s m below meth c ls C0 hr hml hlk hW hS hl
  have hl : lv_has ls 4 [(0, .ref (b + 0)), (1, .int a1), (2, .int a2)] := hl
  have hx := C0.1
  have hb := C0.2.1
  rw [f_X11_logs_e] at h
  refine lv_sipush (v := (239 : Int32)) hx hb dX11_logs_0 (by decide) ?_
  refine lv_istore_n (lv' := [(3, .int (239 : Int32)), (0, .ref (b + 0)), (1, .int a1), (2, .int a2)]) hx hb dX11_logs_3 rfl hl (by decide) rfl (fun ls hl => ?_)
  exact l_X11_logs_4 C0 hr hml hlk 5000 _ _ _ _ _ _ _ h hW hS (lv_sub hl [1, 2, 3, 0] rfl)
def f_X11_weightOf_4 : Nat → Int32 → Int32 → Int32 → zU → Option (Int32)
  | 0, _, _, _, _ => none
  | n + 1, x1, x2, x3, u =>
    if (u 1 3) ≤ x3 then (some x2) else (z_let (f_X11_isOf x1 x3 u) (fun t1 => if t1 = true then ((f_X11_of x3 (1 : Int32) u).bind (fun r3 => z_let (x2 + r3) (fun z4 => f_X11_weightOf_4 n x1 z4 (x3 + (1 : Int32)) u))) else (z_let (x2 + (0 : Int32)) (fun z2 => f_X11_weightOf_4 n x1 z2 (x3 + (1 : Int32)) u))))
theorem f_X11_weightOf_4_s (n : Nat) (x1 : Int32) (x2 : Int32) (x3 : Int32) (u : zU) : f_X11_weightOf_4 (n + 1) x1 x2 x3 u = if (u 1 3) ≤ x3 then (some x2) else (z_let (f_X11_isOf x1 x3 u) (fun t1 => if t1 = true then ((f_X11_of x3 (1 : Int32) u).bind (fun r3 => z_let (x2 + r3) (fun z4 => f_X11_weightOf_4 n x1 z4 (x3 + (1 : Int32)) u))) else (z_let (x2 + (0 : Int32)) (fun z2 => f_X11_weightOf_4 n x1 z2 (x3 + (1 : Int32)) u)))) := rfl
def f_X11_weightOf (a1 : Int32) (u : zU) : Option (Int32) :=
  f_X11_weightOf_4 5000 a1 (0 : Int32) (0 : Int32) u
set_option maxRecDepth 100000 in
set_option maxHeartbeats 4000000 in
theorem l_X11_weightOf_4 {l : Launch} {D : zD} {A : Nat → Prop} {b : Nat} {p : Program} {e : Env} {s : State} {m : MethodId} {args : Array Value} {below : List Frame} {meth : Method} {c : Code} {v : Int32} {u : zU} (C0 : z_C p c cX11_weightOf s m args yX11_weightOf.cls D) (hr : meth.sig.returnType = (some .int)) (hml : c.maxLocals = 4) (hlk : meth.locks = false) : ∀ (n : Nat) (x1 : Int32) (x2 : Int32) (x3 : Int32) (H : Heap) (locs : List Loc) (ls : Array Slot), f_X11_weightOf_4 n x1 x2 x3 u = some v → z_W D A b gM u H → va_S A s.heap H locs → lv_has ls 4 [(0, .ref (b + 0)), (1, .int x1), (2, .int x2), (3, .int x3)] → W p l e { frames := 1, cells := 0, slots := 0, locals := 22 } s m args below meth c H locs 0 0 (z_End D A b gM below args s (some (.int v)) u) (F0 m 4 ls []) := by
  have hx := C0.1
  have hb := C0.2.1
  intro n
  induction n with
  | zero => intro x1 x2 x3  H locs ls h hW hS hl; cases h
  | succ n ih =>
    intro x1 x2 x3  H locs ls h hW hS hl
    rw [f_X11_weightOf_4_s] at h
    refine lv_iload_n hx hb dX11_weightOf_4 rfl (lv_at hl 3 rfl) ?_
    refine lv_aload_n hx hb dX11_weightOf_5 rfl (lv_at hl 0 rfl) ?_
    refine z_getr (o := 1) C0 hW fl_X11_7 rfl rfl rfl dX11_weightOf_6 ?_
    refine lv_iconst (v := (3 : Int32)) hx hb dX11_weightOf_9 (by decide) ?_
    refine z_iald (k := 3) C0 hW rfl rfl (by decide) (by decide) dX11_weightOf_10 ?_
    refine lv_icmp_ge (tgt := 41) hx hb dX11_weightOf_11 (by decide) (fun hc => ?_) (fun hc => ?_)
    · have h := z_t h hc
      clear hc
      refine lv_iload_n hx hb dX11_weightOf_41 rfl (lv_at hl 2 rfl) ?_
      cases h
      exact z_iret C0 hr hlk hW hS dX11_weightOf_42
    · have h := z_f h hc
      clear hc
      refine lv_iload_n hx hb dX11_weightOf_14 rfl (lv_at hl 2 rfl) ?_
      refine lv_iload_n hx hb dX11_weightOf_15 rfl (lv_at hl 1 rfl) ?_
      refine lv_iload_n hx hb dX11_weightOf_16 rfl (lv_at hl 3 rfl) ?_
      obtain ⟨t1, hq⟩ : ∃ y, f_X11_isOf x1 x3 u = y := ⟨_, rfl⟩
      have h := z_lz h hq
      refine z_csi (As := [.int x1, .int x3]) C0 hml hl.1 hW hS (c_X11_isOf l D A b x1 x3 u hq) ms_X11_262 ⟨Nat.le_of_ble_eq_true rfl, Nat.le_of_ble_eq_true rfl⟩ rfl rfl (Nat.le_of_ble_eq_true rfl) dX11_weightOf_17 (fun H locs hW hS => ?_)
      clear hq
      refine z_ifeqZ C0 (tgt := 32) dX11_weightOf_20 (by decide) (fun hc => ?_) (fun hc => ?_)
      · have h := z_ff h hc
        clear hc
        refine lv_iconst (v := (0 : Int32)) hx hb dX11_weightOf_32 (by decide) ?_
        refine lv_iadd hx hb dX11_weightOf_33 ?_
        refine lv_topi (fun z2 e1 => ?_)
        have h := z_ly h e1
        clear e1
        refine lv_istore_n (lv' := [(2, .int z2), (0, .ref (b + 0)), (1, .int x1), (3, .int x3)]) hx hb dX11_weightOf_34 rfl hl (by decide) rfl (fun ls hl => ?_)
        refine lv_iinc (v := x3 + (1 : Int32)) (lv' := [(3, .int (x3 + (1 : Int32))), (2, .int z2), (0, .ref (b + 0)), (1, .int x1)]) hx hb dX11_weightOf_35 hl (k := 3) rfl rfl (by decide) rfl (fun ls hl => ?_)
        refine lv_goto (tgt := 4) hx hb dX11_weightOf_38 (by decide) ?_
        exact ih _ _ _ _ _ _ h hW hS (lv_sub hl [2, 3, 1, 0] rfl)
      · have h := z_t h hc
        clear hc
        refine lv_aload_n hx hb dX11_weightOf_23 rfl (lv_at hl 0 rfl) ?_
        refine lv_iload_n hx hb dX11_weightOf_24 rfl (lv_at hl 3 rfl) ?_
        refine lv_iconst (v := (1 : Int32)) hx hb dX11_weightOf_25 (by decide) ?_
        obtain ⟨r3, hq, h⟩ := z_bd h
        refine z_cvi (As := [.int x3, .int (1 : Int32)]) C0 hml hl.1 hW hS (c_X11_of l D A b x3 (1 : Int32) u hq) mv_X11_49 rfl ⟨Nat.le_of_ble_eq_true rfl, Nat.le_of_ble_eq_true rfl⟩ rfl rfl (Nat.le_of_ble_eq_true rfl) dX11_weightOf_26 (fun H locs hW hS => ?_)
        clear hq
        refine lv_goto (tgt := 33) hx hb dX11_weightOf_29 (by decide) ?_
        refine lv_iadd hx hb dX11_weightOf_33 ?_
        refine lv_topi (fun z4 e1 => ?_)
        have h := z_ly h e1
        clear e1
        refine lv_istore_n (lv' := [(2, .int z4), (0, .ref (b + 0)), (1, .int x1), (3, .int x3)]) hx hb dX11_weightOf_34 rfl hl (by decide) rfl (fun ls hl => ?_)
        refine lv_iinc (v := x3 + (1 : Int32)) (lv' := [(3, .int (x3 + (1 : Int32))), (2, .int z4), (0, .ref (b + 0)), (1, .int x1)]) hx hb dX11_weightOf_35 hl (k := 3) rfl rfl (by decide) rfl (fun ls hl => ?_)
        refine lv_goto (tgt := 4) hx hb dX11_weightOf_38 (by decide) ?_
        exact ih _ _ _ _ _ _ h hW hS (lv_sub hl [2, 3, 1, 0] rfl)
theorem f_X11_weightOf_e (a1 : Int32) (u : zU) : f_X11_weightOf a1 u = f_X11_weightOf_4 5000 a1 (0 : Int32) (0 : Int32) u := rfl
set_option maxRecDepth 100000 in
set_option maxHeartbeats 4000000 in
theorem c_X11_weightOf (l : Launch) (D : zD) (A : Nat → Prop) (b : Nat) (a1 : Int32) (u : zU) {v : Int32} (h : f_X11_weightOf a1 u = some v) : z_M l D A b gM yX11_weightOf cX11_weightOf 4 (some .int) 1 22 [.ref (b + 0), .int a1] u (some (.int v)) u := by
  refine z_enter (by decide) (Nat.le_of_ble_eq_true rfl) ?_
  intro p e s m below meth c ls C0 hr hml hlk hW hS hl
  have hl : lv_has ls 4 [(0, .ref (b + 0)), (1, .int a1)] := hl
  have hx := C0.1
  have hb := C0.2.1
  rw [f_X11_weightOf_e] at h
  refine lv_iconst (v := (0 : Int32)) hx hb dX11_weightOf_0 (by decide) ?_
  refine lv_istore_n (lv' := [(2, .int (0 : Int32)), (0, .ref (b + 0)), (1, .int a1)]) hx hb dX11_weightOf_1 rfl hl (by decide) rfl (fun ls hl => ?_)
  refine lv_iconst (v := (0 : Int32)) hx hb dX11_weightOf_2 (by decide) ?_
  refine lv_istore_n (lv' := [(3, .int (0 : Int32)), (2, .int (0 : Int32)), (0, .ref (b + 0)), (1, .int a1)]) hx hb dX11_weightOf_3 rfl hl (by decide) rfl (fun ls hl => ?_)
  exact l_X11_weightOf_4 C0 hr hml hlk 5000 _ _ _ _ _ _ h hW hS (lv_sub hl [2, 3, 1, 0] rfl)
def f_X11_costOf (a1 : Int32) (u : zU) : Int32 :=
  z_let (f_X11_placesOf a1 u) (fun r1 => (10 : Int32) * r1)
theorem f_X11_costOf_e (a1 : Int32) (u : zU) : f_X11_costOf a1 u = z_let (f_X11_placesOf a1 u) (fun r1 => (10 : Int32) * r1) := rfl
set_option maxRecDepth 100000 in
set_option maxHeartbeats 4000000 in
theorem c_X11_costOf (l : Launch) (D : zD) (A : Nat → Prop) (b : Nat) (a1 : Int32) (u : zU) {v : Int32} (h : f_X11_costOf a1 u = v) : z_M l D A b gM yX11_costOf cX11_costOf 2 (some .int) 1 21 [.ref (b + 0), .int a1] u (some (.int v)) u := by
  refine z_enter (by decide) (Nat.le_of_ble_eq_true rfl) ?_
  intro p e s m below meth c ls C0 hr hml hlk hW hS hl
  have hl : lv_has ls 2 [(0, .ref (b + 0)), (1, .int a1)] := hl
  have hx := C0.1
  have hb := C0.2.1
  rw [f_X11_costOf_e] at h
  refine lv_bipush (v := (10 : Int32)) hx hb dX11_costOf_0 (by decide) ?_
  refine lv_aload_n hx hb dX11_costOf_2 rfl (lv_at hl 0 rfl) ?_
  refine lv_iload_n hx hb dX11_costOf_3 rfl (lv_at hl 1 rfl) ?_
  obtain ⟨r1, hq⟩ : ∃ y, f_X11_placesOf a1 u = y := ⟨_, rfl⟩
  have h := z_lz h hq
  refine z_cvi (As := [.int a1]) C0 hml hl.1 hW hS (c_X11_placesOf l D A b a1 u hq) mv_X11_60 rfl ⟨Nat.le_of_ble_eq_true rfl, Nat.le_of_ble_eq_true rfl⟩ rfl rfl (Nat.le_of_ble_eq_true rfl) dX11_costOf_4 (fun H locs hW hS => ?_)
  clear hq
  refine lv_imul hx hb dX11_costOf_7 ?_
  cases h
  exact z_iret C0 hr hlk hW hS dX11_costOf_8
def f_X11_cradle (a1 : Int32) (a2 : Int32) (u : zU) : Option (Int32 × zU) :=
  z_let (f_X11_isCradle a1 u) (fun t1 => if t1 = true then (z_let (f_X11_isIn a2 (0 : Int32) (5 : Int32) u) (fun t2 => if t2 = true then (z_let (z_up u 0 0 (0 : Int32)) (fun u3 => if (u3 0 0) ≤ 0 then (if a2 = 0 then (if z_in ((17 : Int32) + a1) 705 = true then (z_let (u3 1 ((17 : Int32) + a1).toNatClampNeg) (fun z10 => some (z10, u3))) else none) else (if a2 = (1 : Int32) then ((f_X11_those a1 u3).bind (fun r9 => some (r9, u3))) else (if a2 = (2 : Int32) then (z_let (f_X11_placesOf a1 u3) (fun r8 => some (r8, u3))) else (if a2 = (3 : Int32) then (z_let (f_X11_heightOf a1 u3) (fun r7 => some (r7, u3))) else (if a2 = (4 : Int32) then ((f_X11_those a1 u3).bind (fun r5 => (f_X11_weightOf r5 u3).bind (fun r6 => some (r6, u3)))) else (z_let (f_X11_costOf a1 u3) (fun r4 => some (r4, u3)))))))) else (some ((0 : Int32), u3)))) else (z_let (z_up u 0 0 (2 : Int32)) (fun u11 => if (u11 0 0) ≤ 0 then (if a2 = 0 then (if z_in ((17 : Int32) + a1) 705 = true then (z_let (u11 1 ((17 : Int32) + a1).toNatClampNeg) (fun z18 => some (z18, u11))) else none) else (if a2 = (1 : Int32) then ((f_X11_those a1 u11).bind (fun r17 => some (r17, u11))) else (if a2 = (2 : Int32) then (z_let (f_X11_placesOf a1 u11) (fun r16 => some (r16, u11))) else (if a2 = (3 : Int32) then (z_let (f_X11_heightOf a1 u11) (fun r15 => some (r15, u11))) else (if a2 = (4 : Int32) then ((f_X11_those a1 u11).bind (fun r13 => (f_X11_weightOf r13 u11).bind (fun r14 => some (r14, u11)))) else (z_let (f_X11_costOf a1 u11) (fun r12 => some (r12, u11)))))))) else (some ((0 : Int32), u11)))))) else (z_let (z_up u 0 0 (1 : Int32)) (fun u19 => if (u19 0 0) ≤ 0 then (if a2 = 0 then (if z_in ((17 : Int32) + a1) 705 = true then (z_let (u19 1 ((17 : Int32) + a1).toNatClampNeg) (fun z26 => some (z26, u19))) else none) else (if a2 = (1 : Int32) then ((f_X11_those a1 u19).bind (fun r25 => some (r25, u19))) else (if a2 = (2 : Int32) then (z_let (f_X11_placesOf a1 u19) (fun r24 => some (r24, u19))) else (if a2 = (3 : Int32) then (z_let (f_X11_heightOf a1 u19) (fun r23 => some (r23, u19))) else (if a2 = (4 : Int32) then ((f_X11_those a1 u19).bind (fun r21 => (f_X11_weightOf r21 u19).bind (fun r22 => some (r22, u19)))) else (z_let (f_X11_costOf a1 u19) (fun r20 => some (r20, u19)))))))) else (some ((0 : Int32), u19)))))
theorem f_X11_cradle_e (a1 : Int32) (a2 : Int32) (u : zU) : f_X11_cradle a1 a2 u = z_let (f_X11_isCradle a1 u) (fun t1 => if t1 = true then (z_let (f_X11_isIn a2 (0 : Int32) (5 : Int32) u) (fun t2 => if t2 = true then (z_let (z_up u 0 0 (0 : Int32)) (fun u3 => if (u3 0 0) ≤ 0 then (if a2 = 0 then (if z_in ((17 : Int32) + a1) 705 = true then (z_let (u3 1 ((17 : Int32) + a1).toNatClampNeg) (fun z10 => some (z10, u3))) else none) else (if a2 = (1 : Int32) then ((f_X11_those a1 u3).bind (fun r9 => some (r9, u3))) else (if a2 = (2 : Int32) then (z_let (f_X11_placesOf a1 u3) (fun r8 => some (r8, u3))) else (if a2 = (3 : Int32) then (z_let (f_X11_heightOf a1 u3) (fun r7 => some (r7, u3))) else (if a2 = (4 : Int32) then ((f_X11_those a1 u3).bind (fun r5 => (f_X11_weightOf r5 u3).bind (fun r6 => some (r6, u3)))) else (z_let (f_X11_costOf a1 u3) (fun r4 => some (r4, u3)))))))) else (some ((0 : Int32), u3)))) else (z_let (z_up u 0 0 (2 : Int32)) (fun u11 => if (u11 0 0) ≤ 0 then (if a2 = 0 then (if z_in ((17 : Int32) + a1) 705 = true then (z_let (u11 1 ((17 : Int32) + a1).toNatClampNeg) (fun z18 => some (z18, u11))) else none) else (if a2 = (1 : Int32) then ((f_X11_those a1 u11).bind (fun r17 => some (r17, u11))) else (if a2 = (2 : Int32) then (z_let (f_X11_placesOf a1 u11) (fun r16 => some (r16, u11))) else (if a2 = (3 : Int32) then (z_let (f_X11_heightOf a1 u11) (fun r15 => some (r15, u11))) else (if a2 = (4 : Int32) then ((f_X11_those a1 u11).bind (fun r13 => (f_X11_weightOf r13 u11).bind (fun r14 => some (r14, u11)))) else (z_let (f_X11_costOf a1 u11) (fun r12 => some (r12, u11)))))))) else (some ((0 : Int32), u11)))))) else (z_let (z_up u 0 0 (1 : Int32)) (fun u19 => if (u19 0 0) ≤ 0 then (if a2 = 0 then (if z_in ((17 : Int32) + a1) 705 = true then (z_let (u19 1 ((17 : Int32) + a1).toNatClampNeg) (fun z26 => some (z26, u19))) else none) else (if a2 = (1 : Int32) then ((f_X11_those a1 u19).bind (fun r25 => some (r25, u19))) else (if a2 = (2 : Int32) then (z_let (f_X11_placesOf a1 u19) (fun r24 => some (r24, u19))) else (if a2 = (3 : Int32) then (z_let (f_X11_heightOf a1 u19) (fun r23 => some (r23, u19))) else (if a2 = (4 : Int32) then ((f_X11_those a1 u19).bind (fun r21 => (f_X11_weightOf r21 u19).bind (fun r22 => some (r22, u19)))) else (z_let (f_X11_costOf a1 u19) (fun r20 => some (r20, u19)))))))) else (some ((0 : Int32), u19))))) := rfl
set_option maxRecDepth 100000 in
set_option maxHeartbeats 4000000 in
theorem c_X11_cradle (l : Launch) (D : zD) (A : Nat → Prop) (b : Nat) (a1 : Int32) (a2 : Int32) (u : zU) {v : Int32} {u' : zU} (h : f_X11_cradle a1 a2 u = some (v, u')) : z_M l D A b gM yX11_cradle cX11_cradle 3 (some .int) 2 45 [.ref (b + 0), .int a1, .int a2] u (some (.int v)) u' := by
  refine z_enter (by decide) (Nat.le_of_ble_eq_true rfl) ?_
  intro p e s m below meth c ls C0 hr hml hlk hW hS hl
  have hl : lv_has ls 3 [(0, .ref (b + 0)), (1, .int a1), (2, .int a2)] := hl
  have hx := C0.1
  have hb := C0.2.1
  rw [f_X11_cradle_e] at h
  refine lv_aload_n hx hb dX11_cradle_0 rfl (lv_at hl 0 rfl) ?_
  refine lv_iload_n hx hb dX11_cradle_1 rfl (lv_at hl 1 rfl) ?_
  obtain ⟨t1, hq⟩ : ∃ y, f_X11_isCradle a1 u = y := ⟨_, rfl⟩
  have h := z_lz h hq
  refine z_csi (As := [.int a1]) C0 hml hl.1 hW hS (c_X11_isCradle l D A b a1 u hq) ms_X11_294 ⟨Nat.le_of_ble_eq_true rfl, Nat.le_of_ble_eq_true rfl⟩ rfl rfl (Nat.le_of_ble_eq_true rfl) dX11_cradle_2 (fun H locs hW hS => ?_)
  clear hq
  refine z_ifneZ C0 (tgt := 12) dX11_cradle_5 (by decide) (fun hc => ?_) (fun hc => ?_)
  · have h := z_t h hc
    clear hc
    refine lv_iload_n hx hb dX11_cradle_12 rfl (lv_at hl 2 rfl) ?_
    refine lv_iconst (v := (0 : Int32)) hx hb dX11_cradle_13 (by decide) ?_
    refine lv_iconst (v := (5 : Int32)) hx hb dX11_cradle_14 (by decide) ?_
    obtain ⟨t2, hq⟩ : ∃ y, f_X11_isIn a2 (0 : Int32) (5 : Int32) u = y := ⟨_, rfl⟩
    have h := z_lz h hq
    refine z_csi (As := [.int a2, .int (0 : Int32), .int (5 : Int32)]) C0 hml hl.1 hW hS (c_X11_isIn l D A b a2 (0 : Int32) (5 : Int32) u hq) ms_X11_45 ⟨Nat.le_of_ble_eq_true rfl, Nat.le_of_ble_eq_true rfl⟩ rfl rfl (Nat.le_of_ble_eq_true rfl) dX11_cradle_15 (fun H locs hW hS => ?_)
    clear hq
    refine z_ifneZ C0 (tgt := 25) dX11_cradle_18 (by decide) (fun hc => ?_) (fun hc => ?_)
    · have h := z_t h hc
      clear hc
      refine lv_iconst (v := (0 : Int32)) hx hb dX11_cradle_25 (by decide) ?_
      refine z_puti C0 hW hS fl_X11_42 rfl rfl rfl rfl dX11_cradle_26 (fun H locs u3 e1 hW hS => ?_)
      have h := z_ly h e1
      clear e1
      refine lv_aload_n hx hb dX11_cradle_29 rfl (lv_at hl 0 rfl) ?_
      refine z_geti C0 hW fl_X11_42 rfl rfl dX11_cradle_30 ?_
      refine lv_if_le (tgt := 38) hx hb dX11_cradle_33 (by decide) (fun hc => ?_) (fun hc => ?_)
      · have h := z_t h hc
        clear hc
        refine lv_iload_n hx hb dX11_cradle_38 rfl (lv_at hl 2 rfl) ?_
        refine lv_if_ne (tgt := 52) hx hb dX11_cradle_39 (by decide) (fun hc => ?_) (fun hc => ?_)
        · have h := z_f h hc
          clear hc
          refine lv_iload_n hx hb dX11_cradle_52 rfl (lv_at hl 2 rfl) ?_
          refine lv_iconst (v := (1 : Int32)) hx hb dX11_cradle_53 (by decide) ?_
          refine lv_icmp_ne (tgt := 63) hx hb dX11_cradle_54 (by decide) (fun hc => ?_) (fun hc => ?_)
          · have h := z_f h hc
            clear hc
            refine lv_iload_n hx hb dX11_cradle_63 rfl (lv_at hl 2 rfl) ?_
            refine lv_iconst (v := (2 : Int32)) hx hb dX11_cradle_64 (by decide) ?_
            refine lv_icmp_ne (tgt := 74) hx hb dX11_cradle_65 (by decide) (fun hc => ?_) (fun hc => ?_)
            · have h := z_f h hc
              clear hc
              refine lv_iload_n hx hb dX11_cradle_74 rfl (lv_at hl 2 rfl) ?_
              refine lv_iconst (v := (3 : Int32)) hx hb dX11_cradle_75 (by decide) ?_
              refine lv_icmp_ne (tgt := 85) hx hb dX11_cradle_76 (by decide) (fun hc => ?_) (fun hc => ?_)
              · have h := z_f h hc
                clear hc
                refine lv_iload_n hx hb dX11_cradle_85 rfl (lv_at hl 2 rfl) ?_
                refine lv_iconst (v := (4 : Int32)) hx hb dX11_cradle_86 (by decide) ?_
                refine lv_icmp_ne (tgt := 102) hx hb dX11_cradle_87 (by decide) (fun hc => ?_) (fun hc => ?_)
                · have h := z_f h hc
                  clear hc
                  refine lv_aload_n hx hb dX11_cradle_102 rfl (lv_at hl 0 rfl) ?_
                  refine lv_iload_n hx hb dX11_cradle_103 rfl (lv_at hl 1 rfl) ?_
                  obtain ⟨r4, hq⟩ : ∃ y, f_X11_costOf a1 u3 = y := ⟨_, rfl⟩
                  have h := z_lz h hq
                  refine z_cvi (As := [.int a1]) C0 hml hl.1 hW hS (c_X11_costOf l D A b a1 u3 hq) mv_X11_300 rfl ⟨Nat.le_of_ble_eq_true rfl, Nat.le_of_ble_eq_true rfl⟩ rfl rfl (Nat.le_of_ble_eq_true rfl) dX11_cradle_104 (fun H locs hW hS => ?_)
                  clear hq
                  cases h
                  exact z_iret C0 hr hlk hW hS dX11_cradle_107
                · have h := z_t h hc
                  clear hc
                  refine lv_aload_n hx hb dX11_cradle_90 rfl (lv_at hl 0 rfl) ?_
                  refine lv_aload_n hx hb dX11_cradle_91 rfl (lv_at hl 0 rfl) ?_
                  refine lv_iload_n hx hb dX11_cradle_92 rfl (lv_at hl 1 rfl) ?_
                  obtain ⟨r5, hq, h⟩ := z_bd h
                  refine z_cvi (As := [.int a1]) C0 hml hl.1 hW hS (c_X11_those l D A b a1 u3 hq) mv_X11_53 rfl ⟨Nat.le_of_ble_eq_true rfl, Nat.le_of_ble_eq_true rfl⟩ rfl rfl (Nat.le_of_ble_eq_true rfl) dX11_cradle_93 (fun H locs hW hS => ?_)
                  clear hq
                  obtain ⟨r6, hq, h⟩ := z_bd h
                  refine z_cvi (As := [.int r5]) C0 hml hl.1 hW hS (c_X11_weightOf l D A b r5 u3 hq) mv_X11_297 rfl ⟨Nat.le_of_ble_eq_true rfl, Nat.le_of_ble_eq_true rfl⟩ rfl rfl (Nat.le_of_ble_eq_true rfl) dX11_cradle_96 (fun H locs hW hS => ?_)
                  clear hq
                  refine lv_goto (tgt := 107) hx hb dX11_cradle_99 (by decide) ?_
                  cases h
                  exact z_iret C0 hr hlk hW hS dX11_cradle_107
              · have h := z_t h hc
                clear hc
                refine lv_aload_n hx hb dX11_cradle_79 rfl (lv_at hl 0 rfl) ?_
                refine lv_iload_n hx hb dX11_cradle_80 rfl (lv_at hl 1 rfl) ?_
                obtain ⟨r7, hq⟩ : ∃ y, f_X11_heightOf a1 u3 = y := ⟨_, rfl⟩
                have h := z_lz h hq
                refine z_cvi (As := [.int a1]) C0 hml hl.1 hW hS (c_X11_heightOf l D A b a1 u3 hq) mv_X11_243 rfl ⟨Nat.le_of_ble_eq_true rfl, Nat.le_of_ble_eq_true rfl⟩ rfl rfl (Nat.le_of_ble_eq_true rfl) dX11_cradle_81 (fun H locs hW hS => ?_)
                clear hq
                cases h
                exact z_iret C0 hr hlk hW hS dX11_cradle_84
            · have h := z_t h hc
              clear hc
              refine lv_aload_n hx hb dX11_cradle_68 rfl (lv_at hl 0 rfl) ?_
              refine lv_iload_n hx hb dX11_cradle_69 rfl (lv_at hl 1 rfl) ?_
              obtain ⟨r8, hq⟩ : ∃ y, f_X11_placesOf a1 u3 = y := ⟨_, rfl⟩
              have h := z_lz h hq
              refine z_cvi (As := [.int a1]) C0 hml hl.1 hW hS (c_X11_placesOf l D A b a1 u3 hq) mv_X11_60 rfl ⟨Nat.le_of_ble_eq_true rfl, Nat.le_of_ble_eq_true rfl⟩ rfl rfl (Nat.le_of_ble_eq_true rfl) dX11_cradle_70 (fun H locs hW hS => ?_)
              clear hq
              cases h
              exact z_iret C0 hr hlk hW hS dX11_cradle_73
          · have h := z_t h hc
            clear hc
            refine lv_aload_n hx hb dX11_cradle_57 rfl (lv_at hl 0 rfl) ?_
            refine lv_iload_n hx hb dX11_cradle_58 rfl (lv_at hl 1 rfl) ?_
            obtain ⟨r9, hq, h⟩ := z_bd h
            refine z_cvi (As := [.int a1]) C0 hml hl.1 hW hS (c_X11_those l D A b a1 u3 hq) mv_X11_53 rfl ⟨Nat.le_of_ble_eq_true rfl, Nat.le_of_ble_eq_true rfl⟩ rfl rfl (Nat.le_of_ble_eq_true rfl) dX11_cradle_59 (fun H locs hW hS => ?_)
            clear hq
            cases h
            exact z_iret C0 hr hlk hW hS dX11_cradle_62
        · have h := z_t h hc
          clear hc
          refine lv_aload_n hx hb dX11_cradle_42 rfl (lv_at hl 0 rfl) ?_
          refine z_getr (o := 1) C0 hW fl_X11_7 rfl rfl rfl dX11_cradle_43 ?_
          refine lv_bipush (v := (17 : Int32)) hx hb dX11_cradle_46 (by decide) ?_
          refine lv_iload_n hx hb dX11_cradle_48 rfl (lv_at hl 1 rfl) ?_
          refine lv_iadd hx hb dX11_cradle_49 ?_
          obtain ⟨hin, h⟩ := z_if h
          refine z_iald C0 hW rfl rfl hin rfl dX11_cradle_50 ?_
          clear hin
          refine lv_topi (fun z10 e1 => ?_)
          have h := z_ly h e1
          clear e1
          cases h
          exact z_iret C0 hr hlk hW hS dX11_cradle_51
      · have h := z_f h hc
        clear hc
        refine lv_iconst (v := (0 : Int32)) hx hb dX11_cradle_36 (by decide) ?_
        cases h
        exact z_iret C0 hr hlk hW hS dX11_cradle_37
    · have h := z_ff h hc
      clear hc
      refine lv_iconst (v := (2 : Int32)) hx hb dX11_cradle_21 (by decide) ?_
      refine lv_goto (tgt := 26) hx hb dX11_cradle_22 (by decide) ?_
      refine z_puti C0 hW hS fl_X11_42 rfl rfl rfl rfl dX11_cradle_26 (fun H locs u11 e1 hW hS => ?_)
      have h := z_ly h e1
      clear e1
      refine lv_aload_n hx hb dX11_cradle_29 rfl (lv_at hl 0 rfl) ?_
      refine z_geti C0 hW fl_X11_42 rfl rfl dX11_cradle_30 ?_
      refine lv_if_le (tgt := 38) hx hb dX11_cradle_33 (by decide) (fun hc => ?_) (fun hc => ?_)
      · have h := z_t h hc
        clear hc
        refine lv_iload_n hx hb dX11_cradle_38 rfl (lv_at hl 2 rfl) ?_
        refine lv_if_ne (tgt := 52) hx hb dX11_cradle_39 (by decide) (fun hc => ?_) (fun hc => ?_)
        · have h := z_f h hc
          clear hc
          refine lv_iload_n hx hb dX11_cradle_52 rfl (lv_at hl 2 rfl) ?_
          refine lv_iconst (v := (1 : Int32)) hx hb dX11_cradle_53 (by decide) ?_
          refine lv_icmp_ne (tgt := 63) hx hb dX11_cradle_54 (by decide) (fun hc => ?_) (fun hc => ?_)
          · have h := z_f h hc
            clear hc
            refine lv_iload_n hx hb dX11_cradle_63 rfl (lv_at hl 2 rfl) ?_
            refine lv_iconst (v := (2 : Int32)) hx hb dX11_cradle_64 (by decide) ?_
            refine lv_icmp_ne (tgt := 74) hx hb dX11_cradle_65 (by decide) (fun hc => ?_) (fun hc => ?_)
            · have h := z_f h hc
              clear hc
              refine lv_iload_n hx hb dX11_cradle_74 rfl (lv_at hl 2 rfl) ?_
              refine lv_iconst (v := (3 : Int32)) hx hb dX11_cradle_75 (by decide) ?_
              refine lv_icmp_ne (tgt := 85) hx hb dX11_cradle_76 (by decide) (fun hc => ?_) (fun hc => ?_)
              · have h := z_f h hc
                clear hc
                refine lv_iload_n hx hb dX11_cradle_85 rfl (lv_at hl 2 rfl) ?_
                refine lv_iconst (v := (4 : Int32)) hx hb dX11_cradle_86 (by decide) ?_
                refine lv_icmp_ne (tgt := 102) hx hb dX11_cradle_87 (by decide) (fun hc => ?_) (fun hc => ?_)
                · have h := z_f h hc
                  clear hc
                  refine lv_aload_n hx hb dX11_cradle_102 rfl (lv_at hl 0 rfl) ?_
                  refine lv_iload_n hx hb dX11_cradle_103 rfl (lv_at hl 1 rfl) ?_
                  obtain ⟨r12, hq⟩ : ∃ y, f_X11_costOf a1 u11 = y := ⟨_, rfl⟩
                  have h := z_lz h hq
                  refine z_cvi (As := [.int a1]) C0 hml hl.1 hW hS (c_X11_costOf l D A b a1 u11 hq) mv_X11_300 rfl ⟨Nat.le_of_ble_eq_true rfl, Nat.le_of_ble_eq_true rfl⟩ rfl rfl (Nat.le_of_ble_eq_true rfl) dX11_cradle_104 (fun H locs hW hS => ?_)
                  clear hq
                  cases h
                  exact z_iret C0 hr hlk hW hS dX11_cradle_107
                · have h := z_t h hc
                  clear hc
                  refine lv_aload_n hx hb dX11_cradle_90 rfl (lv_at hl 0 rfl) ?_
                  refine lv_aload_n hx hb dX11_cradle_91 rfl (lv_at hl 0 rfl) ?_
                  refine lv_iload_n hx hb dX11_cradle_92 rfl (lv_at hl 1 rfl) ?_
                  obtain ⟨r13, hq, h⟩ := z_bd h
                  refine z_cvi (As := [.int a1]) C0 hml hl.1 hW hS (c_X11_those l D A b a1 u11 hq) mv_X11_53 rfl ⟨Nat.le_of_ble_eq_true rfl, Nat.le_of_ble_eq_true rfl⟩ rfl rfl (Nat.le_of_ble_eq_true rfl) dX11_cradle_93 (fun H locs hW hS => ?_)
                  clear hq
                  obtain ⟨r14, hq, h⟩ := z_bd h
                  refine z_cvi (As := [.int r13]) C0 hml hl.1 hW hS (c_X11_weightOf l D A b r13 u11 hq) mv_X11_297 rfl ⟨Nat.le_of_ble_eq_true rfl, Nat.le_of_ble_eq_true rfl⟩ rfl rfl (Nat.le_of_ble_eq_true rfl) dX11_cradle_96 (fun H locs hW hS => ?_)
                  clear hq
                  refine lv_goto (tgt := 107) hx hb dX11_cradle_99 (by decide) ?_
                  cases h
                  exact z_iret C0 hr hlk hW hS dX11_cradle_107
              · have h := z_t h hc
                clear hc
                refine lv_aload_n hx hb dX11_cradle_79 rfl (lv_at hl 0 rfl) ?_
                refine lv_iload_n hx hb dX11_cradle_80 rfl (lv_at hl 1 rfl) ?_
                obtain ⟨r15, hq⟩ : ∃ y, f_X11_heightOf a1 u11 = y := ⟨_, rfl⟩
                have h := z_lz h hq
                refine z_cvi (As := [.int a1]) C0 hml hl.1 hW hS (c_X11_heightOf l D A b a1 u11 hq) mv_X11_243 rfl ⟨Nat.le_of_ble_eq_true rfl, Nat.le_of_ble_eq_true rfl⟩ rfl rfl (Nat.le_of_ble_eq_true rfl) dX11_cradle_81 (fun H locs hW hS => ?_)
                clear hq
                cases h
                exact z_iret C0 hr hlk hW hS dX11_cradle_84
            · have h := z_t h hc
              clear hc
              refine lv_aload_n hx hb dX11_cradle_68 rfl (lv_at hl 0 rfl) ?_
              refine lv_iload_n hx hb dX11_cradle_69 rfl (lv_at hl 1 rfl) ?_
              obtain ⟨r16, hq⟩ : ∃ y, f_X11_placesOf a1 u11 = y := ⟨_, rfl⟩
              have h := z_lz h hq
              refine z_cvi (As := [.int a1]) C0 hml hl.1 hW hS (c_X11_placesOf l D A b a1 u11 hq) mv_X11_60 rfl ⟨Nat.le_of_ble_eq_true rfl, Nat.le_of_ble_eq_true rfl⟩ rfl rfl (Nat.le_of_ble_eq_true rfl) dX11_cradle_70 (fun H locs hW hS => ?_)
              clear hq
              cases h
              exact z_iret C0 hr hlk hW hS dX11_cradle_73
          · have h := z_t h hc
            clear hc
            refine lv_aload_n hx hb dX11_cradle_57 rfl (lv_at hl 0 rfl) ?_
            refine lv_iload_n hx hb dX11_cradle_58 rfl (lv_at hl 1 rfl) ?_
            obtain ⟨r17, hq, h⟩ := z_bd h
            refine z_cvi (As := [.int a1]) C0 hml hl.1 hW hS (c_X11_those l D A b a1 u11 hq) mv_X11_53 rfl ⟨Nat.le_of_ble_eq_true rfl, Nat.le_of_ble_eq_true rfl⟩ rfl rfl (Nat.le_of_ble_eq_true rfl) dX11_cradle_59 (fun H locs hW hS => ?_)
            clear hq
            cases h
            exact z_iret C0 hr hlk hW hS dX11_cradle_62
        · have h := z_t h hc
          clear hc
          refine lv_aload_n hx hb dX11_cradle_42 rfl (lv_at hl 0 rfl) ?_
          refine z_getr (o := 1) C0 hW fl_X11_7 rfl rfl rfl dX11_cradle_43 ?_
          refine lv_bipush (v := (17 : Int32)) hx hb dX11_cradle_46 (by decide) ?_
          refine lv_iload_n hx hb dX11_cradle_48 rfl (lv_at hl 1 rfl) ?_
          refine lv_iadd hx hb dX11_cradle_49 ?_
          obtain ⟨hin, h⟩ := z_if h
          refine z_iald C0 hW rfl rfl hin rfl dX11_cradle_50 ?_
          clear hin
          refine lv_topi (fun z18 e1 => ?_)
          have h := z_ly h e1
          clear e1
          cases h
          exact z_iret C0 hr hlk hW hS dX11_cradle_51
      · have h := z_f h hc
        clear hc
        refine lv_iconst (v := (0 : Int32)) hx hb dX11_cradle_36 (by decide) ?_
        cases h
        exact z_iret C0 hr hlk hW hS dX11_cradle_37
  · have h := z_ff h hc
    clear hc
    refine lv_iconst (v := (1 : Int32)) hx hb dX11_cradle_8 (by decide) ?_
    refine lv_goto (tgt := 26) hx hb dX11_cradle_9 (by decide) ?_
    refine z_puti C0 hW hS fl_X11_42 rfl rfl rfl rfl dX11_cradle_26 (fun H locs u19 e1 hW hS => ?_)
    have h := z_ly h e1
    clear e1
    refine lv_aload_n hx hb dX11_cradle_29 rfl (lv_at hl 0 rfl) ?_
    refine z_geti C0 hW fl_X11_42 rfl rfl dX11_cradle_30 ?_
    refine lv_if_le (tgt := 38) hx hb dX11_cradle_33 (by decide) (fun hc => ?_) (fun hc => ?_)
    · have h := z_t h hc
      clear hc
      refine lv_iload_n hx hb dX11_cradle_38 rfl (lv_at hl 2 rfl) ?_
      refine lv_if_ne (tgt := 52) hx hb dX11_cradle_39 (by decide) (fun hc => ?_) (fun hc => ?_)
      · have h := z_f h hc
        clear hc
        refine lv_iload_n hx hb dX11_cradle_52 rfl (lv_at hl 2 rfl) ?_
        refine lv_iconst (v := (1 : Int32)) hx hb dX11_cradle_53 (by decide) ?_
        refine lv_icmp_ne (tgt := 63) hx hb dX11_cradle_54 (by decide) (fun hc => ?_) (fun hc => ?_)
        · have h := z_f h hc
          clear hc
          refine lv_iload_n hx hb dX11_cradle_63 rfl (lv_at hl 2 rfl) ?_
          refine lv_iconst (v := (2 : Int32)) hx hb dX11_cradle_64 (by decide) ?_
          refine lv_icmp_ne (tgt := 74) hx hb dX11_cradle_65 (by decide) (fun hc => ?_) (fun hc => ?_)
          · have h := z_f h hc
            clear hc
            refine lv_iload_n hx hb dX11_cradle_74 rfl (lv_at hl 2 rfl) ?_
            refine lv_iconst (v := (3 : Int32)) hx hb dX11_cradle_75 (by decide) ?_
            refine lv_icmp_ne (tgt := 85) hx hb dX11_cradle_76 (by decide) (fun hc => ?_) (fun hc => ?_)
            · have h := z_f h hc
              clear hc
              refine lv_iload_n hx hb dX11_cradle_85 rfl (lv_at hl 2 rfl) ?_
              refine lv_iconst (v := (4 : Int32)) hx hb dX11_cradle_86 (by decide) ?_
              refine lv_icmp_ne (tgt := 102) hx hb dX11_cradle_87 (by decide) (fun hc => ?_) (fun hc => ?_)
              · have h := z_f h hc
                clear hc
                refine lv_aload_n hx hb dX11_cradle_102 rfl (lv_at hl 0 rfl) ?_
                refine lv_iload_n hx hb dX11_cradle_103 rfl (lv_at hl 1 rfl) ?_
                obtain ⟨r20, hq⟩ : ∃ y, f_X11_costOf a1 u19 = y := ⟨_, rfl⟩
                have h := z_lz h hq
                refine z_cvi (As := [.int a1]) C0 hml hl.1 hW hS (c_X11_costOf l D A b a1 u19 hq) mv_X11_300 rfl ⟨Nat.le_of_ble_eq_true rfl, Nat.le_of_ble_eq_true rfl⟩ rfl rfl (Nat.le_of_ble_eq_true rfl) dX11_cradle_104 (fun H locs hW hS => ?_)
                clear hq
                cases h
                exact z_iret C0 hr hlk hW hS dX11_cradle_107
              · have h := z_t h hc
                clear hc
                refine lv_aload_n hx hb dX11_cradle_90 rfl (lv_at hl 0 rfl) ?_
                refine lv_aload_n hx hb dX11_cradle_91 rfl (lv_at hl 0 rfl) ?_
                refine lv_iload_n hx hb dX11_cradle_92 rfl (lv_at hl 1 rfl) ?_
                obtain ⟨r21, hq, h⟩ := z_bd h
                refine z_cvi (As := [.int a1]) C0 hml hl.1 hW hS (c_X11_those l D A b a1 u19 hq) mv_X11_53 rfl ⟨Nat.le_of_ble_eq_true rfl, Nat.le_of_ble_eq_true rfl⟩ rfl rfl (Nat.le_of_ble_eq_true rfl) dX11_cradle_93 (fun H locs hW hS => ?_)
                clear hq
                obtain ⟨r22, hq, h⟩ := z_bd h
                refine z_cvi (As := [.int r21]) C0 hml hl.1 hW hS (c_X11_weightOf l D A b r21 u19 hq) mv_X11_297 rfl ⟨Nat.le_of_ble_eq_true rfl, Nat.le_of_ble_eq_true rfl⟩ rfl rfl (Nat.le_of_ble_eq_true rfl) dX11_cradle_96 (fun H locs hW hS => ?_)
                clear hq
                refine lv_goto (tgt := 107) hx hb dX11_cradle_99 (by decide) ?_
                cases h
                exact z_iret C0 hr hlk hW hS dX11_cradle_107
            · have h := z_t h hc
              clear hc
              refine lv_aload_n hx hb dX11_cradle_79 rfl (lv_at hl 0 rfl) ?_
              refine lv_iload_n hx hb dX11_cradle_80 rfl (lv_at hl 1 rfl) ?_
              obtain ⟨r23, hq⟩ : ∃ y, f_X11_heightOf a1 u19 = y := ⟨_, rfl⟩
              have h := z_lz h hq
              refine z_cvi (As := [.int a1]) C0 hml hl.1 hW hS (c_X11_heightOf l D A b a1 u19 hq) mv_X11_243 rfl ⟨Nat.le_of_ble_eq_true rfl, Nat.le_of_ble_eq_true rfl⟩ rfl rfl (Nat.le_of_ble_eq_true rfl) dX11_cradle_81 (fun H locs hW hS => ?_)
              clear hq
              cases h
              exact z_iret C0 hr hlk hW hS dX11_cradle_84
          · have h := z_t h hc
            clear hc
            refine lv_aload_n hx hb dX11_cradle_68 rfl (lv_at hl 0 rfl) ?_
            refine lv_iload_n hx hb dX11_cradle_69 rfl (lv_at hl 1 rfl) ?_
            obtain ⟨r24, hq⟩ : ∃ y, f_X11_placesOf a1 u19 = y := ⟨_, rfl⟩
            have h := z_lz h hq
            refine z_cvi (As := [.int a1]) C0 hml hl.1 hW hS (c_X11_placesOf l D A b a1 u19 hq) mv_X11_60 rfl ⟨Nat.le_of_ble_eq_true rfl, Nat.le_of_ble_eq_true rfl⟩ rfl rfl (Nat.le_of_ble_eq_true rfl) dX11_cradle_70 (fun H locs hW hS => ?_)
            clear hq
            cases h
            exact z_iret C0 hr hlk hW hS dX11_cradle_73
        · have h := z_t h hc
          clear hc
          refine lv_aload_n hx hb dX11_cradle_57 rfl (lv_at hl 0 rfl) ?_
          refine lv_iload_n hx hb dX11_cradle_58 rfl (lv_at hl 1 rfl) ?_
          obtain ⟨r25, hq, h⟩ := z_bd h
          refine z_cvi (As := [.int a1]) C0 hml hl.1 hW hS (c_X11_those l D A b a1 u19 hq) mv_X11_53 rfl ⟨Nat.le_of_ble_eq_true rfl, Nat.le_of_ble_eq_true rfl⟩ rfl rfl (Nat.le_of_ble_eq_true rfl) dX11_cradle_59 (fun H locs hW hS => ?_)
          clear hq
          cases h
          exact z_iret C0 hr hlk hW hS dX11_cradle_62
      · have h := z_t h hc
        clear hc
        refine lv_aload_n hx hb dX11_cradle_42 rfl (lv_at hl 0 rfl) ?_
        refine z_getr (o := 1) C0 hW fl_X11_7 rfl rfl rfl dX11_cradle_43 ?_
        refine lv_bipush (v := (17 : Int32)) hx hb dX11_cradle_46 (by decide) ?_
        refine lv_iload_n hx hb dX11_cradle_48 rfl (lv_at hl 1 rfl) ?_
        refine lv_iadd hx hb dX11_cradle_49 ?_
        obtain ⟨hin, h⟩ := z_if h
        refine z_iald C0 hW rfl rfl hin rfl dX11_cradle_50 ?_
        clear hin
        refine lv_topi (fun z26 e1 => ?_)
        have h := z_ly h e1
        clear e1
        cases h
        exact z_iret C0 hr hlk hW hS dX11_cradle_51
    · have h := z_f h hc
      clear hc
      refine lv_iconst (v := (0 : Int32)) hx hb dX11_cradle_36 (by decide) ?_
      cases h
      exact z_iret C0 hr hlk hW hS dX11_cradle_37
def f_X11_ridersOf_4 : Nat → Int32 → Int32 → Int32 → zU → Option (Int32)
  | 0, _, _, _, _ => none
  | n + 1, x1, x2, x3, u =>
    if (u 1 3) ≤ x3 then (some x2) else ((f_X11_of x3 (3 : Int32) u).bind (fun r1 => if r1 = x1 then (z_let (x2 ||| ((1 : Int32) <<< (x3 &&& 31))) (fun z3 => f_X11_ridersOf_4 n x1 z3 (x3 + (1 : Int32)) u)) else (z_let (x2 ||| (0 : Int32)) (fun z2 => f_X11_ridersOf_4 n x1 z2 (x3 + (1 : Int32)) u))))
theorem f_X11_ridersOf_4_s (n : Nat) (x1 : Int32) (x2 : Int32) (x3 : Int32) (u : zU) : f_X11_ridersOf_4 (n + 1) x1 x2 x3 u = if (u 1 3) ≤ x3 then (some x2) else ((f_X11_of x3 (3 : Int32) u).bind (fun r1 => if r1 = x1 then (z_let (x2 ||| ((1 : Int32) <<< (x3 &&& 31))) (fun z3 => f_X11_ridersOf_4 n x1 z3 (x3 + (1 : Int32)) u)) else (z_let (x2 ||| (0 : Int32)) (fun z2 => f_X11_ridersOf_4 n x1 z2 (x3 + (1 : Int32)) u)))) := rfl
def f_X11_ridersOf (a1 : Int32) (u : zU) : Option (Int32) :=
  f_X11_ridersOf_4 5000 a1 (0 : Int32) (0 : Int32) u
set_option maxRecDepth 100000 in
set_option maxHeartbeats 4000000 in
theorem l_X11_ridersOf_4 {l : Launch} {D : zD} {A : Nat → Prop} {b : Nat} {p : Program} {e : Env} {s : State} {m : MethodId} {args : Array Value} {below : List Frame} {meth : Method} {c : Code} {v : Int32} {u : zU} (C0 : z_C p c cX11_ridersOf s m args yX11_ridersOf.cls D) (hr : meth.sig.returnType = (some .int)) (hml : c.maxLocals = 4) (hlk : meth.locks = false) : ∀ (n : Nat) (x1 : Int32) (x2 : Int32) (x3 : Int32) (H : Heap) (locs : List Loc) (ls : Array Slot), f_X11_ridersOf_4 n x1 x2 x3 u = some v → z_W D A b gM u H → va_S A s.heap H locs → lv_has ls 4 [(0, .ref (b + 0)), (1, .int x1), (2, .int x2), (3, .int x3)] → W p l e { frames := 1, cells := 0, slots := 0, locals := 22 } s m args below meth c H locs 0 0 (z_End D A b gM below args s (some (.int v)) u) (F0 m 4 ls []) := by
  have hx := C0.1
  have hb := C0.2.1
  intro n
  induction n with
  | zero => intro x1 x2 x3  H locs ls h hW hS hl; cases h
  | succ n ih =>
    intro x1 x2 x3  H locs ls h hW hS hl
    rw [f_X11_ridersOf_4_s] at h
    refine lv_iload_n hx hb dX11_ridersOf_4 rfl (lv_at hl 3 rfl) ?_
    refine lv_aload_n hx hb dX11_ridersOf_5 rfl (lv_at hl 0 rfl) ?_
    refine z_getr (o := 1) C0 hW fl_X11_7 rfl rfl rfl dX11_ridersOf_6 ?_
    refine lv_iconst (v := (3 : Int32)) hx hb dX11_ridersOf_9 (by decide) ?_
    refine z_iald (k := 3) C0 hW rfl rfl (by decide) (by decide) dX11_ridersOf_10 ?_
    refine lv_icmp_ge (tgt := 40) hx hb dX11_ridersOf_11 (by decide) (fun hc => ?_) (fun hc => ?_)
    · have h := z_t h hc
      clear hc
      refine lv_iload_n hx hb dX11_ridersOf_40 rfl (lv_at hl 2 rfl) ?_
      cases h
      exact z_iret C0 hr hlk hW hS dX11_ridersOf_41
    · have h := z_f h hc
      clear hc
      refine lv_iload_n hx hb dX11_ridersOf_14 rfl (lv_at hl 2 rfl) ?_
      refine lv_aload_n hx hb dX11_ridersOf_15 rfl (lv_at hl 0 rfl) ?_
      refine lv_iload_n hx hb dX11_ridersOf_16 rfl (lv_at hl 3 rfl) ?_
      refine lv_iconst (v := (3 : Int32)) hx hb dX11_ridersOf_17 (by decide) ?_
      obtain ⟨r1, hq, h⟩ := z_bd h
      refine z_cvi (As := [.int x3, .int (3 : Int32)]) C0 hml hl.1 hW hS (c_X11_of l D A b x3 (3 : Int32) u hq) mv_X11_49 rfl ⟨Nat.le_of_ble_eq_true rfl, Nat.le_of_ble_eq_true rfl⟩ rfl rfl (Nat.le_of_ble_eq_true rfl) dX11_ridersOf_18 (fun H locs hW hS => ?_)
      clear hq
      refine lv_iload_n hx hb dX11_ridersOf_21 rfl (lv_at hl 1 rfl) ?_
      refine lv_icmp_ne (tgt := 31) hx hb dX11_ridersOf_22 (by decide) (fun hc => ?_) (fun hc => ?_)
      · have h := z_f h hc
        clear hc
        refine lv_iconst (v := (0 : Int32)) hx hb dX11_ridersOf_31 (by decide) ?_
        refine lv_ior hx hb dX11_ridersOf_32 ?_
        refine lv_topi (fun z2 e1 => ?_)
        have h := z_ly h e1
        clear e1
        refine lv_istore_n (lv' := [(2, .int z2), (0, .ref (b + 0)), (1, .int x1), (3, .int x3)]) hx hb dX11_ridersOf_33 rfl hl (by decide) rfl (fun ls hl => ?_)
        refine lv_iinc (v := x3 + (1 : Int32)) (lv' := [(3, .int (x3 + (1 : Int32))), (2, .int z2), (0, .ref (b + 0)), (1, .int x1)]) hx hb dX11_ridersOf_34 hl (k := 3) rfl rfl (by decide) rfl (fun ls hl => ?_)
        refine lv_goto (tgt := 4) hx hb dX11_ridersOf_37 (by decide) ?_
        exact ih _ _ _ _ _ _ h hW hS (lv_sub hl [2, 3, 1, 0] rfl)
      · have h := z_t h hc
        clear hc
        refine lv_iconst (v := (1 : Int32)) hx hb dX11_ridersOf_25 (by decide) ?_
        refine lv_iload_n hx hb dX11_ridersOf_26 rfl (lv_at hl 3 rfl) ?_
        refine lv_ishl hx hb dX11_ridersOf_27 ?_
        refine lv_goto (tgt := 32) hx hb dX11_ridersOf_28 (by decide) ?_
        refine lv_ior hx hb dX11_ridersOf_32 ?_
        refine lv_topi (fun z3 e1 => ?_)
        have h := z_ly h e1
        clear e1
        refine lv_istore_n (lv' := [(2, .int z3), (0, .ref (b + 0)), (1, .int x1), (3, .int x3)]) hx hb dX11_ridersOf_33 rfl hl (by decide) rfl (fun ls hl => ?_)
        refine lv_iinc (v := x3 + (1 : Int32)) (lv' := [(3, .int (x3 + (1 : Int32))), (2, .int z3), (0, .ref (b + 0)), (1, .int x1)]) hx hb dX11_ridersOf_34 hl (k := 3) rfl rfl (by decide) rfl (fun ls hl => ?_)
        refine lv_goto (tgt := 4) hx hb dX11_ridersOf_37 (by decide) ?_
        exact ih _ _ _ _ _ _ h hW hS (lv_sub hl [2, 3, 1, 0] rfl)
theorem f_X11_ridersOf_e (a1 : Int32) (u : zU) : f_X11_ridersOf a1 u = f_X11_ridersOf_4 5000 a1 (0 : Int32) (0 : Int32) u := rfl
set_option maxRecDepth 100000 in
set_option maxHeartbeats 4000000 in
theorem c_X11_ridersOf (l : Launch) (D : zD) (A : Nat → Prop) (b : Nat) (a1 : Int32) (u : zU) {v : Int32} (h : f_X11_ridersOf a1 u = some v) : z_M l D A b gM yX11_ridersOf cX11_ridersOf 4 (some .int) 1 22 [.ref (b + 0), .int a1] u (some (.int v)) u := by
  refine z_enter (by decide) (Nat.le_of_ble_eq_true rfl) ?_
  intro p e s m below meth c ls C0 hr hml hlk hW hS hl
  have hl : lv_has ls 4 [(0, .ref (b + 0)), (1, .int a1)] := hl
  have hx := C0.1
  have hb := C0.2.1
  rw [f_X11_ridersOf_e] at h
  refine lv_iconst (v := (0 : Int32)) hx hb dX11_ridersOf_0 (by decide) ?_
  refine lv_istore_n (lv' := [(2, .int (0 : Int32)), (0, .ref (b + 0)), (1, .int a1)]) hx hb dX11_ridersOf_1 rfl hl (by decide) rfl (fun ls hl => ?_)
  refine lv_iconst (v := (0 : Int32)) hx hb dX11_ridersOf_2 (by decide) ?_
  refine lv_istore_n (lv' := [(3, .int (0 : Int32)), (2, .int (0 : Int32)), (0, .ref (b + 0)), (1, .int a1)]) hx hb dX11_ridersOf_3 rfl hl (by decide) rfl (fun ls hl => ?_)
  exact l_X11_ridersOf_4 C0 hr hml hlk 5000 _ _ _ _ _ _ h hW hS (lv_sub hl [2, 3, 1, 0] rfl)
def f_X11_seated_4 : Nat → Int32 → Int32 → zU → Option (Int32)
  | 0, _, _, _ => none
  | n + 1, x1, x2, u =>
    if (u 1 3) ≤ x2 then (some x1) else ((f_X11_waits x2 u).bind (fun t1 => if t1 = true then (z_let (x1 ||| (0 : Int32)) (fun z3 => f_X11_seated_4 n z3 (x2 + (1 : Int32)) u)) else (z_let (x1 ||| ((1 : Int32) <<< (x2 &&& 31))) (fun z2 => f_X11_seated_4 n z2 (x2 + (1 : Int32)) u))))
theorem f_X11_seated_4_s (n : Nat) (x1 : Int32) (x2 : Int32) (u : zU) : f_X11_seated_4 (n + 1) x1 x2 u = if (u 1 3) ≤ x2 then (some x1) else ((f_X11_waits x2 u).bind (fun t1 => if t1 = true then (z_let (x1 ||| (0 : Int32)) (fun z3 => f_X11_seated_4 n z3 (x2 + (1 : Int32)) u)) else (z_let (x1 ||| ((1 : Int32) <<< (x2 &&& 31))) (fun z2 => f_X11_seated_4 n z2 (x2 + (1 : Int32)) u)))) := rfl
def f_X11_seated  (u : zU) : Option (Int32) :=
  f_X11_seated_4 5000 (0 : Int32) (0 : Int32) u
set_option maxRecDepth 100000 in
set_option maxHeartbeats 4000000 in
theorem l_X11_seated_4 {l : Launch} {D : zD} {A : Nat → Prop} {b : Nat} {p : Program} {e : Env} {s : State} {m : MethodId} {args : Array Value} {below : List Frame} {meth : Method} {c : Code} {v : Int32} {u : zU} (C0 : z_C p c cX11_seated s m args yX11_seated.cls D) (hr : meth.sig.returnType = (some .int)) (hml : c.maxLocals = 3) (hlk : meth.locks = false) : ∀ (n : Nat) (x1 : Int32) (x2 : Int32) (H : Heap) (locs : List Loc) (ls : Array Slot), f_X11_seated_4 n x1 x2 u = some v → z_W D A b gM u H → va_S A s.heap H locs → lv_has ls 3 [(0, .ref (b + 0)), (1, .int x1), (2, .int x2)] → W p l e { frames := 2, cells := 0, slots := 0, locals := 43 } s m args below meth c H locs 0 0 (z_End D A b gM below args s (some (.int v)) u) (F0 m 4 ls []) := by
  have hx := C0.1
  have hb := C0.2.1
  intro n
  induction n with
  | zero => intro x1 x2  H locs ls h hW hS hl; cases h
  | succ n ih =>
    intro x1 x2  H locs ls h hW hS hl
    rw [f_X11_seated_4_s] at h
    refine lv_iload_n hx hb dX11_seated_4 rfl (lv_at hl 2 rfl) ?_
    refine lv_aload_n hx hb dX11_seated_5 rfl (lv_at hl 0 rfl) ?_
    refine z_getr (o := 1) C0 hW fl_X11_7 rfl rfl rfl dX11_seated_6 ?_
    refine lv_iconst (v := (3 : Int32)) hx hb dX11_seated_9 (by decide) ?_
    refine z_iald (k := 3) C0 hW rfl rfl (by decide) (by decide) dX11_seated_10 ?_
    refine lv_icmp_ge (tgt := 38) hx hb dX11_seated_11 (by decide) (fun hc => ?_) (fun hc => ?_)
    · have h := z_t h hc
      clear hc
      refine lv_iload_n hx hb dX11_seated_38 rfl (lv_at hl 1 rfl) ?_
      cases h
      exact z_iret C0 hr hlk hW hS dX11_seated_39
    · have h := z_f h hc
      clear hc
      refine lv_iload_n hx hb dX11_seated_14 rfl (lv_at hl 1 rfl) ?_
      refine lv_aload_n hx hb dX11_seated_15 rfl (lv_at hl 0 rfl) ?_
      refine lv_iload_n hx hb dX11_seated_16 rfl (lv_at hl 2 rfl) ?_
      obtain ⟨t1, hq, h⟩ := z_bd h
      refine z_cvi (As := [.int x2]) C0 hml hl.1 hW hS (c_X11_waits l D A b x2 u hq) mv_X11_255 rfl ⟨Nat.le_of_ble_eq_true rfl, Nat.le_of_ble_eq_true rfl⟩ rfl rfl (Nat.le_of_ble_eq_true rfl) dX11_seated_17 (fun H locs hW hS => ?_)
      clear hq
      refine z_ifeqZ C0 (tgt := 27) dX11_seated_20 (by decide) (fun hc => ?_) (fun hc => ?_)
      · have h := z_ff h hc
        clear hc
        refine lv_iconst (v := (1 : Int32)) hx hb dX11_seated_27 (by decide) ?_
        refine lv_iload_n hx hb dX11_seated_28 rfl (lv_at hl 2 rfl) ?_
        refine lv_ishl hx hb dX11_seated_29 ?_
        refine lv_ior hx hb dX11_seated_30 ?_
        refine lv_topi (fun z2 e1 => ?_)
        have h := z_ly h e1
        clear e1
        refine lv_istore_n (lv' := [(1, .int z2), (0, .ref (b + 0)), (2, .int x2)]) hx hb dX11_seated_31 rfl hl (by decide) rfl (fun ls hl => ?_)
        refine lv_iinc (v := x2 + (1 : Int32)) (lv' := [(2, .int (x2 + (1 : Int32))), (1, .int z2), (0, .ref (b + 0))]) hx hb dX11_seated_32 hl (k := 2) rfl rfl (by decide) rfl (fun ls hl => ?_)
        refine lv_goto (tgt := 4) hx hb dX11_seated_35 (by decide) ?_
        exact ih _ _ _ _ _ h hW hS (lv_sub hl [2, 1, 0] rfl)
      · have h := z_t h hc
        clear hc
        refine lv_iconst (v := (0 : Int32)) hx hb dX11_seated_23 (by decide) ?_
        refine lv_goto (tgt := 30) hx hb dX11_seated_24 (by decide) ?_
        refine lv_ior hx hb dX11_seated_30 ?_
        refine lv_topi (fun z3 e1 => ?_)
        have h := z_ly h e1
        clear e1
        refine lv_istore_n (lv' := [(1, .int z3), (0, .ref (b + 0)), (2, .int x2)]) hx hb dX11_seated_31 rfl hl (by decide) rfl (fun ls hl => ?_)
        refine lv_iinc (v := x2 + (1 : Int32)) (lv' := [(2, .int (x2 + (1 : Int32))), (1, .int z3), (0, .ref (b + 0))]) hx hb dX11_seated_32 hl (k := 2) rfl rfl (by decide) rfl (fun ls hl => ?_)
        refine lv_goto (tgt := 4) hx hb dX11_seated_35 (by decide) ?_
        exact ih _ _ _ _ _ h hW hS (lv_sub hl [2, 1, 0] rfl)
theorem f_X11_seated_e  (u : zU) : f_X11_seated  u = f_X11_seated_4 5000 (0 : Int32) (0 : Int32) u := rfl
set_option maxRecDepth 100000 in
set_option maxHeartbeats 4000000 in
theorem c_X11_seated (l : Launch) (D : zD) (A : Nat → Prop) (b : Nat)  (u : zU) {v : Int32} (h : f_X11_seated  u = some v) : z_M l D A b gM yX11_seated cX11_seated 3 (some .int) 2 43 [.ref (b + 0)] u (some (.int v)) u := by
  refine z_enter (by decide) (Nat.le_of_ble_eq_true rfl) ?_
  intro p e s m below meth c ls C0 hr hml hlk hW hS hl
  have hl : lv_has ls 3 [(0, .ref (b + 0))] := hl
  have hx := C0.1
  have hb := C0.2.1
  rw [f_X11_seated_e] at h
  refine lv_iconst (v := (0 : Int32)) hx hb dX11_seated_0 (by decide) ?_
  refine lv_istore_n (lv' := [(1, .int (0 : Int32)), (0, .ref (b + 0))]) hx hb dX11_seated_1 rfl hl (by decide) rfl (fun ls hl => ?_)
  refine lv_iconst (v := (0 : Int32)) hx hb dX11_seated_2 (by decide) ?_
  refine lv_istore_n (lv' := [(2, .int (0 : Int32)), (1, .int (0 : Int32)), (0, .ref (b + 0))]) hx hb dX11_seated_3 rfl hl (by decide) rfl (fun ls hl => ?_)
  exact l_X11_seated_4 C0 hr hml hlk 5000 _ _ _ _ _ h hW hS (lv_sub hl [2, 1, 0] rfl)
def f_X11_isMajor_4 : Nat → Int32 → Int32 → Int32 → zU → Option (Bool)
  | 0, _, _, _, _ => none
  | n + 1, x1, x2, x3, u =>
    if (4 : Int32) ≤ x3 then ((f_X11_seated u).bind (fun r1 => (f_X11_weightOf r1 u).bind (fun r2 => if ((2 : Int32) * x2) ≤ r2 then (some false) else (some true)))) else (z_let (f_X11_isOf x1 x3 u) (fun t3 => if t3 = true then ((f_X11_ridersOf x3 u).bind (fun r5 => (f_X11_seated u).bind (fun r6 => (f_X11_weightOf (r5 &&& r6) u).bind (fun r7 => z_let (x2 + r7) (fun z8 => f_X11_isMajor_4 n x1 z8 (x3 + (1 : Int32)) u))))) else (z_let (x2 + (0 : Int32)) (fun z4 => f_X11_isMajor_4 n x1 z4 (x3 + (1 : Int32)) u))))
theorem f_X11_isMajor_4_s (n : Nat) (x1 : Int32) (x2 : Int32) (x3 : Int32) (u : zU) : f_X11_isMajor_4 (n + 1) x1 x2 x3 u = if (4 : Int32) ≤ x3 then ((f_X11_seated u).bind (fun r1 => (f_X11_weightOf r1 u).bind (fun r2 => if ((2 : Int32) * x2) ≤ r2 then (some false) else (some true)))) else (z_let (f_X11_isOf x1 x3 u) (fun t3 => if t3 = true then ((f_X11_ridersOf x3 u).bind (fun r5 => (f_X11_seated u).bind (fun r6 => (f_X11_weightOf (r5 &&& r6) u).bind (fun r7 => z_let (x2 + r7) (fun z8 => f_X11_isMajor_4 n x1 z8 (x3 + (1 : Int32)) u))))) else (z_let (x2 + (0 : Int32)) (fun z4 => f_X11_isMajor_4 n x1 z4 (x3 + (1 : Int32)) u)))) := rfl
def f_X11_isMajor (a1 : Int32) (u : zU) : Option (Bool) :=
  f_X11_isMajor_4 5000 a1 (0 : Int32) (0 : Int32) u
set_option maxRecDepth 100000 in
set_option maxHeartbeats 4000000 in
theorem l_X11_isMajor_4 {l : Launch} {D : zD} {A : Nat → Prop} {b : Nat} {p : Program} {e : Env} {s : State} {m : MethodId} {args : Array Value} {below : List Frame} {meth : Method} {c : Code} {v : Bool} {u : zU} (C0 : z_C p c cX11_isMajor s m args yX11_isMajor.cls D) (hr : meth.sig.returnType = (some .boolean)) (hml : c.maxLocals = 4) (hlk : meth.locks = false) : ∀ (n : Nat) (x1 : Int32) (x2 : Int32) (x3 : Int32) (H : Heap) (locs : List Loc) (ls : Array Slot), f_X11_isMajor_4 n x1 x2 x3 u = some v → z_W D A b gM u H → va_S A s.heap H locs → lv_has ls 4 [(0, .ref (b + 0)), (1, .int x1), (2, .int x2), (3, .int x3)] → W p l e { frames := 3, cells := 0, slots := 0, locals := 65 } s m args below meth c H locs 0 0 (z_End D A b gM below args s (some (.int (bI v))) u) (F0 m 4 ls []) := by
  have hx := C0.1
  have hb := C0.2.1
  intro n
  induction n with
  | zero => intro x1 x2 x3  H locs ls h hW hS hl; cases h
  | succ n ih =>
    intro x1 x2 x3  H locs ls h hW hS hl
    rw [f_X11_isMajor_4_s] at h
    refine lv_iload_n hx hb dX11_isMajor_4 rfl (lv_at hl 3 rfl) ?_
    refine lv_iconst (v := (4 : Int32)) hx hb dX11_isMajor_5 (by decide) ?_
    refine lv_icmp_ge (tgt := 44) hx hb dX11_isMajor_6 (by decide) (fun hc => ?_) (fun hc => ?_)
    · have h := z_t h hc
      clear hc
      refine lv_iconst (v := (2 : Int32)) hx hb dX11_isMajor_44 (by decide) ?_
      refine lv_iload_n hx hb dX11_isMajor_45 rfl (lv_at hl 2 rfl) ?_
      refine lv_imul hx hb dX11_isMajor_46 ?_
      refine lv_aload_n hx hb dX11_isMajor_47 rfl (lv_at hl 0 rfl) ?_
      refine lv_aload_n hx hb dX11_isMajor_48 rfl (lv_at hl 0 rfl) ?_
      obtain ⟨r1, hq, h⟩ := z_bd h
      refine z_cvi (As := []) C0 hml hl.1 hW hS (c_X11_seated l D A b  u hq) mv_X11_306 rfl ⟨Nat.le_of_ble_eq_true rfl, Nat.le_of_ble_eq_true rfl⟩ rfl rfl (Nat.le_of_ble_eq_true rfl) dX11_isMajor_49 (fun H locs hW hS => ?_)
      clear hq
      obtain ⟨r2, hq, h⟩ := z_bd h
      refine z_cvi (As := [.int r1]) C0 hml hl.1 hW hS (c_X11_weightOf l D A b r1 u hq) mv_X11_297 rfl ⟨Nat.le_of_ble_eq_true rfl, Nat.le_of_ble_eq_true rfl⟩ rfl rfl (Nat.le_of_ble_eq_true rfl) dX11_isMajor_52 (fun H locs hW hS => ?_)
      clear hq
      refine lv_icmp_le (tgt := 62) hx hb dX11_isMajor_55 (by decide) (fun hc => ?_) (fun hc => ?_)
      · have h := z_t h hc
        clear hc
        refine lv_iconst (v := (0 : Int32)) hx hb dX11_isMajor_62 (by decide) ?_
        cases h
        exact z_zret (x := false) C0 hr hlk hW hS dX11_isMajor_63
      · have h := z_f h hc
        clear hc
        refine lv_iconst (v := (1 : Int32)) hx hb dX11_isMajor_58 (by decide) ?_
        refine lv_goto (tgt := 63) hx hb dX11_isMajor_59 (by decide) ?_
        cases h
        exact z_zret (x := true) C0 hr hlk hW hS dX11_isMajor_63
    · have h := z_f h hc
      clear hc
      refine lv_iload_n hx hb dX11_isMajor_9 rfl (lv_at hl 2 rfl) ?_
      refine lv_iload_n hx hb dX11_isMajor_10 rfl (lv_at hl 1 rfl) ?_
      refine lv_iload_n hx hb dX11_isMajor_11 rfl (lv_at hl 3 rfl) ?_
      obtain ⟨t3, hq⟩ : ∃ y, f_X11_isOf x1 x3 u = y := ⟨_, rfl⟩
      have h := z_lz h hq
      refine z_csi (As := [.int x1, .int x3]) C0 hml hl.1 hW hS (c_X11_isOf l D A b x1 x3 u hq) ms_X11_262 ⟨Nat.le_of_ble_eq_true rfl, Nat.le_of_ble_eq_true rfl⟩ rfl rfl (Nat.le_of_ble_eq_true rfl) dX11_isMajor_12 (fun H locs hW hS => ?_)
      clear hq
      refine z_ifeqZ C0 (tgt := 35) dX11_isMajor_15 (by decide) (fun hc => ?_) (fun hc => ?_)
      · have h := z_ff h hc
        clear hc
        refine lv_iconst (v := (0 : Int32)) hx hb dX11_isMajor_35 (by decide) ?_
        refine lv_iadd hx hb dX11_isMajor_36 ?_
        refine lv_topi (fun z4 e1 => ?_)
        have h := z_ly h e1
        clear e1
        refine lv_istore_n (lv' := [(2, .int z4), (0, .ref (b + 0)), (1, .int x1), (3, .int x3)]) hx hb dX11_isMajor_37 rfl hl (by decide) rfl (fun ls hl => ?_)
        refine lv_iinc (v := x3 + (1 : Int32)) (lv' := [(3, .int (x3 + (1 : Int32))), (2, .int z4), (0, .ref (b + 0)), (1, .int x1)]) hx hb dX11_isMajor_38 hl (k := 3) rfl rfl (by decide) rfl (fun ls hl => ?_)
        refine lv_goto (tgt := 4) hx hb dX11_isMajor_41 (by decide) ?_
        exact ih _ _ _ _ _ _ h hW hS (lv_sub hl [2, 3, 1, 0] rfl)
      · have h := z_t h hc
        clear hc
        refine lv_aload_n hx hb dX11_isMajor_18 rfl (lv_at hl 0 rfl) ?_
        refine lv_aload_n hx hb dX11_isMajor_19 rfl (lv_at hl 0 rfl) ?_
        refine lv_iload_n hx hb dX11_isMajor_20 rfl (lv_at hl 3 rfl) ?_
        obtain ⟨r5, hq, h⟩ := z_bd h
        refine z_cvi (As := [.int x3]) C0 hml hl.1 hW hS (c_X11_ridersOf l D A b x3 u hq) mv_X11_303 rfl ⟨Nat.le_of_ble_eq_true rfl, Nat.le_of_ble_eq_true rfl⟩ rfl rfl (Nat.le_of_ble_eq_true rfl) dX11_isMajor_21 (fun H locs hW hS => ?_)
        clear hq
        refine lv_aload_n hx hb dX11_isMajor_24 rfl (lv_at hl 0 rfl) ?_
        obtain ⟨r6, hq, h⟩ := z_bd h
        refine z_cvi (As := []) C0 hml hl.1 hW hS (c_X11_seated l D A b  u hq) mv_X11_306 rfl ⟨Nat.le_of_ble_eq_true rfl, Nat.le_of_ble_eq_true rfl⟩ rfl rfl (Nat.le_of_ble_eq_true rfl) dX11_isMajor_25 (fun H locs hW hS => ?_)
        clear hq
        refine lv_iand hx hb dX11_isMajor_28 ?_
        obtain ⟨r7, hq, h⟩ := z_bd h
        refine z_cvi (As := [.int (r5 &&& r6)]) C0 hml hl.1 hW hS (c_X11_weightOf l D A b (r5 &&& r6) u hq) mv_X11_297 rfl ⟨Nat.le_of_ble_eq_true rfl, Nat.le_of_ble_eq_true rfl⟩ rfl rfl (Nat.le_of_ble_eq_true rfl) dX11_isMajor_29 (fun H locs hW hS => ?_)
        clear hq
        refine lv_goto (tgt := 36) hx hb dX11_isMajor_32 (by decide) ?_
        refine lv_iadd hx hb dX11_isMajor_36 ?_
        refine lv_topi (fun z8 e1 => ?_)
        have h := z_ly h e1
        clear e1
        refine lv_istore_n (lv' := [(2, .int z8), (0, .ref (b + 0)), (1, .int x1), (3, .int x3)]) hx hb dX11_isMajor_37 rfl hl (by decide) rfl (fun ls hl => ?_)
        refine lv_iinc (v := x3 + (1 : Int32)) (lv' := [(3, .int (x3 + (1 : Int32))), (2, .int z8), (0, .ref (b + 0)), (1, .int x1)]) hx hb dX11_isMajor_38 hl (k := 3) rfl rfl (by decide) rfl (fun ls hl => ?_)
        refine lv_goto (tgt := 4) hx hb dX11_isMajor_41 (by decide) ?_
        exact ih _ _ _ _ _ _ h hW hS (lv_sub hl [2, 3, 1, 0] rfl)
theorem f_X11_isMajor_e (a1 : Int32) (u : zU) : f_X11_isMajor a1 u = f_X11_isMajor_4 5000 a1 (0 : Int32) (0 : Int32) u := rfl
set_option maxRecDepth 100000 in
set_option maxHeartbeats 4000000 in
theorem c_X11_isMajor (l : Launch) (D : zD) (A : Nat → Prop) (b : Nat) (a1 : Int32) (u : zU) {v : Bool} (h : f_X11_isMajor a1 u = some v) : z_M l D A b gM yX11_isMajor cX11_isMajor 4 (some .boolean) 3 65 [.ref (b + 0), .int a1] u (some (.int (bI v))) u := by
  refine z_enter (by decide) (Nat.le_of_ble_eq_true rfl) ?_
  intro p e s m below meth c ls C0 hr hml hlk hW hS hl
  have hl : lv_has ls 4 [(0, .ref (b + 0)), (1, .int a1)] := hl
  have hx := C0.1
  have hb := C0.2.1
  rw [f_X11_isMajor_e] at h
  refine lv_iconst (v := (0 : Int32)) hx hb dX11_isMajor_0 (by decide) ?_
  refine lv_istore_n (lv' := [(2, .int (0 : Int32)), (0, .ref (b + 0)), (1, .int a1)]) hx hb dX11_isMajor_1 rfl hl (by decide) rfl (fun ls hl => ?_)
  refine lv_iconst (v := (0 : Int32)) hx hb dX11_isMajor_2 (by decide) ?_
  refine lv_istore_n (lv' := [(3, .int (0 : Int32)), (2, .int (0 : Int32)), (0, .ref (b + 0)), (1, .int a1)]) hx hb dX11_isMajor_3 rfl hl (by decide) rfl (fun ls hl => ?_)
  exact l_X11_isMajor_4 C0 hr hml hlk 5000 _ _ _ _ _ _ h hW hS (lv_sub hl [2, 3, 1, 0] rfl)
def f_X11_power_4 : Nat → Int32 → Int32 → Int32 → zU → Option (Int32)
  | 0, _, _, _, _ => none
  | n + 1, x1, x2, x3, u =>
    if (16 : Int32) ≤ x3 then (some x2) else (z_let (f_X11_isOf x3 x1 u) (fun t1 => if t1 = true then (z_let (x2 + (0 : Int32)) (fun z2 => f_X11_power_4 n x1 z2 (x3 + (1 : Int32)) u)) else ((f_X11_isMajor x3 u).bind (fun t3 => if t3 = true then (z_let (x2 + (0 : Int32)) (fun z4 => f_X11_power_4 n x1 z4 (x3 + (1 : Int32)) u)) else ((f_X11_isMajor (x3 ||| ((1 : Int32) <<< (x1 &&& 31))) u).bind (fun t5 => if t5 = true then (z_let (x2 + (1 : Int32)) (fun z7 => f_X11_power_4 n x1 z7 (x3 + (1 : Int32)) u)) else (z_let (x2 + (0 : Int32)) (fun z6 => f_X11_power_4 n x1 z6 (x3 + (1 : Int32)) u))))))))
theorem f_X11_power_4_s (n : Nat) (x1 : Int32) (x2 : Int32) (x3 : Int32) (u : zU) : f_X11_power_4 (n + 1) x1 x2 x3 u = if (16 : Int32) ≤ x3 then (some x2) else (z_let (f_X11_isOf x3 x1 u) (fun t1 => if t1 = true then (z_let (x2 + (0 : Int32)) (fun z2 => f_X11_power_4 n x1 z2 (x3 + (1 : Int32)) u)) else ((f_X11_isMajor x3 u).bind (fun t3 => if t3 = true then (z_let (x2 + (0 : Int32)) (fun z4 => f_X11_power_4 n x1 z4 (x3 + (1 : Int32)) u)) else ((f_X11_isMajor (x3 ||| ((1 : Int32) <<< (x1 &&& 31))) u).bind (fun t5 => if t5 = true then (z_let (x2 + (1 : Int32)) (fun z7 => f_X11_power_4 n x1 z7 (x3 + (1 : Int32)) u)) else (z_let (x2 + (0 : Int32)) (fun z6 => f_X11_power_4 n x1 z6 (x3 + (1 : Int32)) u)))))))) := rfl
def f_X11_power (a1 : Int32) (u : zU) : Option (Int32) :=
  f_X11_power_4 5000 a1 (0 : Int32) (0 : Int32) u
set_option maxRecDepth 100000 in
set_option maxHeartbeats 4000000 in
theorem l_X11_power_4 {l : Launch} {D : zD} {A : Nat → Prop} {b : Nat} {p : Program} {e : Env} {s : State} {m : MethodId} {args : Array Value} {below : List Frame} {meth : Method} {c : Code} {v : Int32} {u : zU} (C0 : z_C p c cX11_power s m args yX11_power.cls D) (hr : meth.sig.returnType = (some .int)) (hml : c.maxLocals = 4) (hlk : meth.locks = false) : ∀ (n : Nat) (x1 : Int32) (x2 : Int32) (x3 : Int32) (H : Heap) (locs : List Loc) (ls : Array Slot), f_X11_power_4 n x1 x2 x3 u = some v → z_W D A b gM u H → va_S A s.heap H locs → lv_has ls 4 [(0, .ref (b + 0)), (1, .int x1), (2, .int x2), (3, .int x3)] → W p l e { frames := 4, cells := 0, slots := 0, locals := 88 } s m args below meth c H locs 0 0 (z_End D A b gM below args s (some (.int v)) u) (F0 m 4 ls []) := by
  have hx := C0.1
  have hb := C0.2.1
  intro n
  induction n with
  | zero => intro x1 x2 x3  H locs ls h hW hS hl; cases h
  | succ n ih =>
    intro x1 x2 x3  H locs ls h hW hS hl
    rw [f_X11_power_4_s] at h
    refine lv_iload_n hx hb dX11_power_4 rfl (lv_at hl 3 rfl) ?_
    refine lv_bipush (v := (16 : Int32)) hx hb dX11_power_5 (by decide) ?_
    refine lv_icmp_ge (tgt := 52) hx hb dX11_power_7 (by decide) (fun hc => ?_) (fun hc => ?_)
    · have h := z_t h hc
      clear hc
      refine lv_iload_n hx hb dX11_power_52 rfl (lv_at hl 2 rfl) ?_
      cases h
      exact z_iret C0 hr hlk hW hS dX11_power_53
    · have h := z_f h hc
      clear hc
      refine lv_iload_n hx hb dX11_power_10 rfl (lv_at hl 2 rfl) ?_
      refine lv_iload_n hx hb dX11_power_11 rfl (lv_at hl 3 rfl) ?_
      refine lv_iload_n hx hb dX11_power_12 rfl (lv_at hl 1 rfl) ?_
      obtain ⟨t1, hq⟩ : ∃ y, f_X11_isOf x3 x1 u = y := ⟨_, rfl⟩
      have h := z_lz h hq
      refine z_csi (As := [.int x3, .int x1]) C0 hml hl.1 hW hS (c_X11_isOf l D A b x3 x1 u hq) ms_X11_262 ⟨Nat.le_of_ble_eq_true rfl, Nat.le_of_ble_eq_true rfl⟩ rfl rfl (Nat.le_of_ble_eq_true rfl) dX11_power_13 (fun H locs hW hS => ?_)
      clear hq
      refine z_ifneZ C0 (tgt := 43) dX11_power_16 (by decide) (fun hc => ?_) (fun hc => ?_)
      · have h := z_t h hc
        clear hc
        refine lv_iconst (v := (0 : Int32)) hx hb dX11_power_43 (by decide) ?_
        refine lv_iadd hx hb dX11_power_44 ?_
        refine lv_topi (fun z2 e1 => ?_)
        have h := z_ly h e1
        clear e1
        refine lv_istore_n (lv' := [(2, .int z2), (0, .ref (b + 0)), (1, .int x1), (3, .int x3)]) hx hb dX11_power_45 rfl hl (by decide) rfl (fun ls hl => ?_)
        refine lv_iinc (v := x3 + (1 : Int32)) (lv' := [(3, .int (x3 + (1 : Int32))), (2, .int z2), (0, .ref (b + 0)), (1, .int x1)]) hx hb dX11_power_46 hl (k := 3) rfl rfl (by decide) rfl (fun ls hl => ?_)
        refine lv_goto (tgt := 4) hx hb dX11_power_49 (by decide) ?_
        exact ih _ _ _ _ _ _ h hW hS (lv_sub hl [2, 3, 1, 0] rfl)
      · have h := z_ff h hc
        clear hc
        refine lv_aload_n hx hb dX11_power_19 rfl (lv_at hl 0 rfl) ?_
        refine lv_iload_n hx hb dX11_power_20 rfl (lv_at hl 3 rfl) ?_
        obtain ⟨t3, hq, h⟩ := z_bd h
        refine z_cvi (As := [.int x3]) C0 hml hl.1 hW hS (c_X11_isMajor l D A b x3 u hq) mv_X11_309 rfl ⟨Nat.le_of_ble_eq_true rfl, Nat.le_of_ble_eq_true rfl⟩ rfl rfl (Nat.le_of_ble_eq_true rfl) dX11_power_21 (fun H locs hW hS => ?_)
        clear hq
        refine z_ifneZ C0 (tgt := 43) dX11_power_24 (by decide) (fun hc => ?_) (fun hc => ?_)
        · have h := z_t h hc
          clear hc
          refine lv_iconst (v := (0 : Int32)) hx hb dX11_power_43 (by decide) ?_
          refine lv_iadd hx hb dX11_power_44 ?_
          refine lv_topi (fun z4 e1 => ?_)
          have h := z_ly h e1
          clear e1
          refine lv_istore_n (lv' := [(2, .int z4), (0, .ref (b + 0)), (1, .int x1), (3, .int x3)]) hx hb dX11_power_45 rfl hl (by decide) rfl (fun ls hl => ?_)
          refine lv_iinc (v := x3 + (1 : Int32)) (lv' := [(3, .int (x3 + (1 : Int32))), (2, .int z4), (0, .ref (b + 0)), (1, .int x1)]) hx hb dX11_power_46 hl (k := 3) rfl rfl (by decide) rfl (fun ls hl => ?_)
          refine lv_goto (tgt := 4) hx hb dX11_power_49 (by decide) ?_
          exact ih _ _ _ _ _ _ h hW hS (lv_sub hl [2, 3, 1, 0] rfl)
        · have h := z_ff h hc
          clear hc
          refine lv_aload_n hx hb dX11_power_27 rfl (lv_at hl 0 rfl) ?_
          refine lv_iload_n hx hb dX11_power_28 rfl (lv_at hl 3 rfl) ?_
          refine lv_iconst (v := (1 : Int32)) hx hb dX11_power_29 (by decide) ?_
          refine lv_iload_n hx hb dX11_power_30 rfl (lv_at hl 1 rfl) ?_
          refine lv_ishl hx hb dX11_power_31 ?_
          refine lv_ior hx hb dX11_power_32 ?_
          obtain ⟨t5, hq, h⟩ := z_bd h
          refine z_cvi (As := [.int (x3 ||| ((1 : Int32) <<< (x1 &&& 31)))]) C0 hml hl.1 hW hS (c_X11_isMajor l D A b (x3 ||| ((1 : Int32) <<< (x1 &&& 31))) u hq) mv_X11_309 rfl ⟨Nat.le_of_ble_eq_true rfl, Nat.le_of_ble_eq_true rfl⟩ rfl rfl (Nat.le_of_ble_eq_true rfl) dX11_power_33 (fun H locs hW hS => ?_)
          clear hq
          refine z_ifeqZ C0 (tgt := 43) dX11_power_36 (by decide) (fun hc => ?_) (fun hc => ?_)
          · have h := z_ff h hc
            clear hc
            refine lv_iconst (v := (0 : Int32)) hx hb dX11_power_43 (by decide) ?_
            refine lv_iadd hx hb dX11_power_44 ?_
            refine lv_topi (fun z6 e1 => ?_)
            have h := z_ly h e1
            clear e1
            refine lv_istore_n (lv' := [(2, .int z6), (0, .ref (b + 0)), (1, .int x1), (3, .int x3)]) hx hb dX11_power_45 rfl hl (by decide) rfl (fun ls hl => ?_)
            refine lv_iinc (v := x3 + (1 : Int32)) (lv' := [(3, .int (x3 + (1 : Int32))), (2, .int z6), (0, .ref (b + 0)), (1, .int x1)]) hx hb dX11_power_46 hl (k := 3) rfl rfl (by decide) rfl (fun ls hl => ?_)
            refine lv_goto (tgt := 4) hx hb dX11_power_49 (by decide) ?_
            exact ih _ _ _ _ _ _ h hW hS (lv_sub hl [2, 3, 1, 0] rfl)
          · have h := z_t h hc
            clear hc
            refine lv_iconst (v := (1 : Int32)) hx hb dX11_power_39 (by decide) ?_
            refine lv_goto (tgt := 44) hx hb dX11_power_40 (by decide) ?_
            refine lv_iadd hx hb dX11_power_44 ?_
            refine lv_topi (fun z7 e1 => ?_)
            have h := z_ly h e1
            clear e1
            refine lv_istore_n (lv' := [(2, .int z7), (0, .ref (b + 0)), (1, .int x1), (3, .int x3)]) hx hb dX11_power_45 rfl hl (by decide) rfl (fun ls hl => ?_)
            refine lv_iinc (v := x3 + (1 : Int32)) (lv' := [(3, .int (x3 + (1 : Int32))), (2, .int z7), (0, .ref (b + 0)), (1, .int x1)]) hx hb dX11_power_46 hl (k := 3) rfl rfl (by decide) rfl (fun ls hl => ?_)
            refine lv_goto (tgt := 4) hx hb dX11_power_49 (by decide) ?_
            exact ih _ _ _ _ _ _ h hW hS (lv_sub hl [2, 3, 1, 0] rfl)
theorem f_X11_power_e (a1 : Int32) (u : zU) : f_X11_power a1 u = f_X11_power_4 5000 a1 (0 : Int32) (0 : Int32) u := rfl
set_option maxRecDepth 100000 in
set_option maxHeartbeats 4000000 in
theorem c_X11_power (l : Launch) (D : zD) (A : Nat → Prop) (b : Nat) (a1 : Int32) (u : zU) {v : Int32} (h : f_X11_power a1 u = some v) : z_M l D A b gM yX11_power cX11_power 4 (some .int) 4 88 [.ref (b + 0), .int a1] u (some (.int v)) u := by
  refine z_enter (by decide) (Nat.le_of_ble_eq_true rfl) ?_
  intro p e s m below meth c ls C0 hr hml hlk hW hS hl
  have hl : lv_has ls 4 [(0, .ref (b + 0)), (1, .int a1)] := hl
  have hx := C0.1
  have hb := C0.2.1
  rw [f_X11_power_e] at h
  refine lv_iconst (v := (0 : Int32)) hx hb dX11_power_0 (by decide) ?_
  refine lv_istore_n (lv' := [(2, .int (0 : Int32)), (0, .ref (b + 0)), (1, .int a1)]) hx hb dX11_power_1 rfl hl (by decide) rfl (fun ls hl => ?_)
  refine lv_iconst (v := (0 : Int32)) hx hb dX11_power_2 (by decide) ?_
  refine lv_istore_n (lv' := [(3, .int (0 : Int32)), (2, .int (0 : Int32)), (0, .ref (b + 0)), (1, .int a1)]) hx hb dX11_power_3 rfl hl (by decide) rfl (fun ls hl => ?_)
  exact l_X11_power_4 C0 hr hml hlk 5000 _ _ _ _ _ _ h hW hS (lv_sub hl [2, 3, 1, 0] rfl)
def f_X11_party (a1 : Int32) (a2 : Int32) (u : zU) : Option (Int32 × zU) :=
  z_let (f_X11_isParty a1 u) (fun t1 => if t1 = true then (z_let (f_X11_isIn a2 (0 : Int32) (3 : Int32) u) (fun t2 => if t2 = true then (z_let (z_up u 0 0 (0 : Int32)) (fun u3 => if (u3 0 0) ≤ 0 then (if a2 = 0 then (if z_in ((13 : Int32) + a1) 705 = true then (z_let (u3 1 ((13 : Int32) + a1).toNatClampNeg) (fun z9 => some (z9, u3))) else none) else (if a2 = (1 : Int32) then ((f_X11_ridersOf a1 u3).bind (fun r8 => some (r8, u3))) else (if a2 = (2 : Int32) then ((f_X11_ridersOf a1 u3).bind (fun r5 => (f_X11_seated u3).bind (fun r6 => (f_X11_weightOf (r5 &&& r6) u3).bind (fun r7 => some (r7, u3))))) else ((f_X11_power a1 u3).bind (fun r4 => some (r4, u3)))))) else (some ((0 : Int32), u3)))) else (z_let (z_up u 0 0 (2 : Int32)) (fun u10 => if (u10 0 0) ≤ 0 then (if a2 = 0 then (if z_in ((13 : Int32) + a1) 705 = true then (z_let (u10 1 ((13 : Int32) + a1).toNatClampNeg) (fun z16 => some (z16, u10))) else none) else (if a2 = (1 : Int32) then ((f_X11_ridersOf a1 u10).bind (fun r15 => some (r15, u10))) else (if a2 = (2 : Int32) then ((f_X11_ridersOf a1 u10).bind (fun r12 => (f_X11_seated u10).bind (fun r13 => (f_X11_weightOf (r12 &&& r13) u10).bind (fun r14 => some (r14, u10))))) else ((f_X11_power a1 u10).bind (fun r11 => some (r11, u10)))))) else (some ((0 : Int32), u10)))))) else (z_let (z_up u 0 0 (1 : Int32)) (fun u17 => if (u17 0 0) ≤ 0 then (if a2 = 0 then (if z_in ((13 : Int32) + a1) 705 = true then (z_let (u17 1 ((13 : Int32) + a1).toNatClampNeg) (fun z23 => some (z23, u17))) else none) else (if a2 = (1 : Int32) then ((f_X11_ridersOf a1 u17).bind (fun r22 => some (r22, u17))) else (if a2 = (2 : Int32) then ((f_X11_ridersOf a1 u17).bind (fun r19 => (f_X11_seated u17).bind (fun r20 => (f_X11_weightOf (r19 &&& r20) u17).bind (fun r21 => some (r21, u17))))) else ((f_X11_power a1 u17).bind (fun r18 => some (r18, u17)))))) else (some ((0 : Int32), u17)))))
theorem f_X11_party_e (a1 : Int32) (a2 : Int32) (u : zU) : f_X11_party a1 a2 u = z_let (f_X11_isParty a1 u) (fun t1 => if t1 = true then (z_let (f_X11_isIn a2 (0 : Int32) (3 : Int32) u) (fun t2 => if t2 = true then (z_let (z_up u 0 0 (0 : Int32)) (fun u3 => if (u3 0 0) ≤ 0 then (if a2 = 0 then (if z_in ((13 : Int32) + a1) 705 = true then (z_let (u3 1 ((13 : Int32) + a1).toNatClampNeg) (fun z9 => some (z9, u3))) else none) else (if a2 = (1 : Int32) then ((f_X11_ridersOf a1 u3).bind (fun r8 => some (r8, u3))) else (if a2 = (2 : Int32) then ((f_X11_ridersOf a1 u3).bind (fun r5 => (f_X11_seated u3).bind (fun r6 => (f_X11_weightOf (r5 &&& r6) u3).bind (fun r7 => some (r7, u3))))) else ((f_X11_power a1 u3).bind (fun r4 => some (r4, u3)))))) else (some ((0 : Int32), u3)))) else (z_let (z_up u 0 0 (2 : Int32)) (fun u10 => if (u10 0 0) ≤ 0 then (if a2 = 0 then (if z_in ((13 : Int32) + a1) 705 = true then (z_let (u10 1 ((13 : Int32) + a1).toNatClampNeg) (fun z16 => some (z16, u10))) else none) else (if a2 = (1 : Int32) then ((f_X11_ridersOf a1 u10).bind (fun r15 => some (r15, u10))) else (if a2 = (2 : Int32) then ((f_X11_ridersOf a1 u10).bind (fun r12 => (f_X11_seated u10).bind (fun r13 => (f_X11_weightOf (r12 &&& r13) u10).bind (fun r14 => some (r14, u10))))) else ((f_X11_power a1 u10).bind (fun r11 => some (r11, u10)))))) else (some ((0 : Int32), u10)))))) else (z_let (z_up u 0 0 (1 : Int32)) (fun u17 => if (u17 0 0) ≤ 0 then (if a2 = 0 then (if z_in ((13 : Int32) + a1) 705 = true then (z_let (u17 1 ((13 : Int32) + a1).toNatClampNeg) (fun z23 => some (z23, u17))) else none) else (if a2 = (1 : Int32) then ((f_X11_ridersOf a1 u17).bind (fun r22 => some (r22, u17))) else (if a2 = (2 : Int32) then ((f_X11_ridersOf a1 u17).bind (fun r19 => (f_X11_seated u17).bind (fun r20 => (f_X11_weightOf (r19 &&& r20) u17).bind (fun r21 => some (r21, u17))))) else ((f_X11_power a1 u17).bind (fun r18 => some (r18, u17)))))) else (some ((0 : Int32), u17))))) := rfl
set_option maxRecDepth 100000 in
set_option maxHeartbeats 4000000 in
theorem c_X11_party (l : Launch) (D : zD) (A : Nat → Prop) (b : Nat) (a1 : Int32) (a2 : Int32) (u : zU) {v : Int32} {u' : zU} (h : f_X11_party a1 a2 u = some (v, u')) : z_M l D A b gM yX11_party cX11_party 3 (some .int) 5 111 [.ref (b + 0), .int a1, .int a2] u (some (.int v)) u' := by
  refine z_enter (by decide) (Nat.le_of_ble_eq_true rfl) ?_
  intro p e s m below meth c ls C0 hr hml hlk hW hS hl
  have hl : lv_has ls 3 [(0, .ref (b + 0)), (1, .int a1), (2, .int a2)] := hl
  have hx := C0.1
  have hb := C0.2.1
  rw [f_X11_party_e] at h
  refine lv_aload_n hx hb dX11_party_0 rfl (lv_at hl 0 rfl) ?_
  refine lv_iload_n hx hb dX11_party_1 rfl (lv_at hl 1 rfl) ?_
  obtain ⟨t1, hq⟩ : ∃ y, f_X11_isParty a1 u = y := ⟨_, rfl⟩
  have h := z_lz h hq
  refine z_csi (As := [.int a1]) C0 hml hl.1 hW hS (c_X11_isParty l D A b a1 u hq) ms_X11_312 ⟨Nat.le_of_ble_eq_true rfl, Nat.le_of_ble_eq_true rfl⟩ rfl rfl (Nat.le_of_ble_eq_true rfl) dX11_party_2 (fun H locs hW hS => ?_)
  clear hq
  refine z_ifneZ C0 (tgt := 12) dX11_party_5 (by decide) (fun hc => ?_) (fun hc => ?_)
  · have h := z_t h hc
    clear hc
    refine lv_iload_n hx hb dX11_party_12 rfl (lv_at hl 2 rfl) ?_
    refine lv_iconst (v := (0 : Int32)) hx hb dX11_party_13 (by decide) ?_
    refine lv_iconst (v := (3 : Int32)) hx hb dX11_party_14 (by decide) ?_
    obtain ⟨t2, hq⟩ : ∃ y, f_X11_isIn a2 (0 : Int32) (3 : Int32) u = y := ⟨_, rfl⟩
    have h := z_lz h hq
    refine z_csi (As := [.int a2, .int (0 : Int32), .int (3 : Int32)]) C0 hml hl.1 hW hS (c_X11_isIn l D A b a2 (0 : Int32) (3 : Int32) u hq) ms_X11_45 ⟨Nat.le_of_ble_eq_true rfl, Nat.le_of_ble_eq_true rfl⟩ rfl rfl (Nat.le_of_ble_eq_true rfl) dX11_party_15 (fun H locs hW hS => ?_)
    clear hq
    refine z_ifneZ C0 (tgt := 25) dX11_party_18 (by decide) (fun hc => ?_) (fun hc => ?_)
    · have h := z_t h hc
      clear hc
      refine lv_iconst (v := (0 : Int32)) hx hb dX11_party_25 (by decide) ?_
      refine z_puti C0 hW hS fl_X11_42 rfl rfl rfl rfl dX11_party_26 (fun H locs u3 e1 hW hS => ?_)
      have h := z_ly h e1
      clear e1
      refine lv_aload_n hx hb dX11_party_29 rfl (lv_at hl 0 rfl) ?_
      refine z_geti C0 hW fl_X11_42 rfl rfl dX11_party_30 ?_
      refine lv_if_le (tgt := 38) hx hb dX11_party_33 (by decide) (fun hc => ?_) (fun hc => ?_)
      · have h := z_t h hc
        clear hc
        refine lv_iload_n hx hb dX11_party_38 rfl (lv_at hl 2 rfl) ?_
        refine lv_if_ne (tgt := 52) hx hb dX11_party_39 (by decide) (fun hc => ?_) (fun hc => ?_)
        · have h := z_f h hc
          clear hc
          refine lv_iload_n hx hb dX11_party_52 rfl (lv_at hl 2 rfl) ?_
          refine lv_iconst (v := (1 : Int32)) hx hb dX11_party_53 (by decide) ?_
          refine lv_icmp_ne (tgt := 63) hx hb dX11_party_54 (by decide) (fun hc => ?_) (fun hc => ?_)
          · have h := z_f h hc
            clear hc
            refine lv_iload_n hx hb dX11_party_63 rfl (lv_at hl 2 rfl) ?_
            refine lv_iconst (v := (2 : Int32)) hx hb dX11_party_64 (by decide) ?_
            refine lv_icmp_ne (tgt := 85) hx hb dX11_party_65 (by decide) (fun hc => ?_) (fun hc => ?_)
            · have h := z_f h hc
              clear hc
              refine lv_aload_n hx hb dX11_party_85 rfl (lv_at hl 0 rfl) ?_
              refine lv_iload_n hx hb dX11_party_86 rfl (lv_at hl 1 rfl) ?_
              obtain ⟨r4, hq, h⟩ := z_bd h
              refine z_cvi (As := [.int a1]) C0 hml hl.1 hW hS (c_X11_power l D A b a1 u3 hq) mv_X11_315 rfl ⟨Nat.le_of_ble_eq_true rfl, Nat.le_of_ble_eq_true rfl⟩ rfl rfl (Nat.le_of_ble_eq_true rfl) dX11_party_87 (fun H locs hW hS => ?_)
              clear hq
              cases h
              exact z_iret C0 hr hlk hW hS dX11_party_90
            · have h := z_t h hc
              clear hc
              refine lv_aload_n hx hb dX11_party_68 rfl (lv_at hl 0 rfl) ?_
              refine lv_aload_n hx hb dX11_party_69 rfl (lv_at hl 0 rfl) ?_
              refine lv_iload_n hx hb dX11_party_70 rfl (lv_at hl 1 rfl) ?_
              obtain ⟨r5, hq, h⟩ := z_bd h
              refine z_cvi (As := [.int a1]) C0 hml hl.1 hW hS (c_X11_ridersOf l D A b a1 u3 hq) mv_X11_303 rfl ⟨Nat.le_of_ble_eq_true rfl, Nat.le_of_ble_eq_true rfl⟩ rfl rfl (Nat.le_of_ble_eq_true rfl) dX11_party_71 (fun H locs hW hS => ?_)
              clear hq
              refine lv_aload_n hx hb dX11_party_74 rfl (lv_at hl 0 rfl) ?_
              obtain ⟨r6, hq, h⟩ := z_bd h
              refine z_cvi (As := []) C0 hml hl.1 hW hS (c_X11_seated l D A b  u3 hq) mv_X11_306 rfl ⟨Nat.le_of_ble_eq_true rfl, Nat.le_of_ble_eq_true rfl⟩ rfl rfl (Nat.le_of_ble_eq_true rfl) dX11_party_75 (fun H locs hW hS => ?_)
              clear hq
              refine lv_iand hx hb dX11_party_78 ?_
              obtain ⟨r7, hq, h⟩ := z_bd h
              refine z_cvi (As := [.int (r5 &&& r6)]) C0 hml hl.1 hW hS (c_X11_weightOf l D A b (r5 &&& r6) u3 hq) mv_X11_297 rfl ⟨Nat.le_of_ble_eq_true rfl, Nat.le_of_ble_eq_true rfl⟩ rfl rfl (Nat.le_of_ble_eq_true rfl) dX11_party_79 (fun H locs hW hS => ?_)
              clear hq
              refine lv_goto (tgt := 90) hx hb dX11_party_82 (by decide) ?_
              cases h
              exact z_iret C0 hr hlk hW hS dX11_party_90
          · have h := z_t h hc
            clear hc
            refine lv_aload_n hx hb dX11_party_57 rfl (lv_at hl 0 rfl) ?_
            refine lv_iload_n hx hb dX11_party_58 rfl (lv_at hl 1 rfl) ?_
            obtain ⟨r8, hq, h⟩ := z_bd h
            refine z_cvi (As := [.int a1]) C0 hml hl.1 hW hS (c_X11_ridersOf l D A b a1 u3 hq) mv_X11_303 rfl ⟨Nat.le_of_ble_eq_true rfl, Nat.le_of_ble_eq_true rfl⟩ rfl rfl (Nat.le_of_ble_eq_true rfl) dX11_party_59 (fun H locs hW hS => ?_)
            clear hq
            cases h
            exact z_iret C0 hr hlk hW hS dX11_party_62
        · have h := z_t h hc
          clear hc
          refine lv_aload_n hx hb dX11_party_42 rfl (lv_at hl 0 rfl) ?_
          refine z_getr (o := 1) C0 hW fl_X11_7 rfl rfl rfl dX11_party_43 ?_
          refine lv_bipush (v := (13 : Int32)) hx hb dX11_party_46 (by decide) ?_
          refine lv_iload_n hx hb dX11_party_48 rfl (lv_at hl 1 rfl) ?_
          refine lv_iadd hx hb dX11_party_49 ?_
          obtain ⟨hin, h⟩ := z_if h
          refine z_iald C0 hW rfl rfl hin rfl dX11_party_50 ?_
          clear hin
          refine lv_topi (fun z9 e1 => ?_)
          have h := z_ly h e1
          clear e1
          cases h
          exact z_iret C0 hr hlk hW hS dX11_party_51
      · have h := z_f h hc
        clear hc
        refine lv_iconst (v := (0 : Int32)) hx hb dX11_party_36 (by decide) ?_
        cases h
        exact z_iret C0 hr hlk hW hS dX11_party_37
    · have h := z_ff h hc
      clear hc
      refine lv_iconst (v := (2 : Int32)) hx hb dX11_party_21 (by decide) ?_
      refine lv_goto (tgt := 26) hx hb dX11_party_22 (by decide) ?_
      refine z_puti C0 hW hS fl_X11_42 rfl rfl rfl rfl dX11_party_26 (fun H locs u10 e1 hW hS => ?_)
      have h := z_ly h e1
      clear e1
      refine lv_aload_n hx hb dX11_party_29 rfl (lv_at hl 0 rfl) ?_
      refine z_geti C0 hW fl_X11_42 rfl rfl dX11_party_30 ?_
      refine lv_if_le (tgt := 38) hx hb dX11_party_33 (by decide) (fun hc => ?_) (fun hc => ?_)
      · have h := z_t h hc
        clear hc
        refine lv_iload_n hx hb dX11_party_38 rfl (lv_at hl 2 rfl) ?_
        refine lv_if_ne (tgt := 52) hx hb dX11_party_39 (by decide) (fun hc => ?_) (fun hc => ?_)
        · have h := z_f h hc
          clear hc
          refine lv_iload_n hx hb dX11_party_52 rfl (lv_at hl 2 rfl) ?_
          refine lv_iconst (v := (1 : Int32)) hx hb dX11_party_53 (by decide) ?_
          refine lv_icmp_ne (tgt := 63) hx hb dX11_party_54 (by decide) (fun hc => ?_) (fun hc => ?_)
          · have h := z_f h hc
            clear hc
            refine lv_iload_n hx hb dX11_party_63 rfl (lv_at hl 2 rfl) ?_
            refine lv_iconst (v := (2 : Int32)) hx hb dX11_party_64 (by decide) ?_
            refine lv_icmp_ne (tgt := 85) hx hb dX11_party_65 (by decide) (fun hc => ?_) (fun hc => ?_)
            · have h := z_f h hc
              clear hc
              refine lv_aload_n hx hb dX11_party_85 rfl (lv_at hl 0 rfl) ?_
              refine lv_iload_n hx hb dX11_party_86 rfl (lv_at hl 1 rfl) ?_
              obtain ⟨r11, hq, h⟩ := z_bd h
              refine z_cvi (As := [.int a1]) C0 hml hl.1 hW hS (c_X11_power l D A b a1 u10 hq) mv_X11_315 rfl ⟨Nat.le_of_ble_eq_true rfl, Nat.le_of_ble_eq_true rfl⟩ rfl rfl (Nat.le_of_ble_eq_true rfl) dX11_party_87 (fun H locs hW hS => ?_)
              clear hq
              cases h
              exact z_iret C0 hr hlk hW hS dX11_party_90
            · have h := z_t h hc
              clear hc
              refine lv_aload_n hx hb dX11_party_68 rfl (lv_at hl 0 rfl) ?_
              refine lv_aload_n hx hb dX11_party_69 rfl (lv_at hl 0 rfl) ?_
              refine lv_iload_n hx hb dX11_party_70 rfl (lv_at hl 1 rfl) ?_
              obtain ⟨r12, hq, h⟩ := z_bd h
              refine z_cvi (As := [.int a1]) C0 hml hl.1 hW hS (c_X11_ridersOf l D A b a1 u10 hq) mv_X11_303 rfl ⟨Nat.le_of_ble_eq_true rfl, Nat.le_of_ble_eq_true rfl⟩ rfl rfl (Nat.le_of_ble_eq_true rfl) dX11_party_71 (fun H locs hW hS => ?_)
              clear hq
              refine lv_aload_n hx hb dX11_party_74 rfl (lv_at hl 0 rfl) ?_
              obtain ⟨r13, hq, h⟩ := z_bd h
              refine z_cvi (As := []) C0 hml hl.1 hW hS (c_X11_seated l D A b  u10 hq) mv_X11_306 rfl ⟨Nat.le_of_ble_eq_true rfl, Nat.le_of_ble_eq_true rfl⟩ rfl rfl (Nat.le_of_ble_eq_true rfl) dX11_party_75 (fun H locs hW hS => ?_)
              clear hq
              refine lv_iand hx hb dX11_party_78 ?_
              obtain ⟨r14, hq, h⟩ := z_bd h
              refine z_cvi (As := [.int (r12 &&& r13)]) C0 hml hl.1 hW hS (c_X11_weightOf l D A b (r12 &&& r13) u10 hq) mv_X11_297 rfl ⟨Nat.le_of_ble_eq_true rfl, Nat.le_of_ble_eq_true rfl⟩ rfl rfl (Nat.le_of_ble_eq_true rfl) dX11_party_79 (fun H locs hW hS => ?_)
              clear hq
              refine lv_goto (tgt := 90) hx hb dX11_party_82 (by decide) ?_
              cases h
              exact z_iret C0 hr hlk hW hS dX11_party_90
          · have h := z_t h hc
            clear hc
            refine lv_aload_n hx hb dX11_party_57 rfl (lv_at hl 0 rfl) ?_
            refine lv_iload_n hx hb dX11_party_58 rfl (lv_at hl 1 rfl) ?_
            obtain ⟨r15, hq, h⟩ := z_bd h
            refine z_cvi (As := [.int a1]) C0 hml hl.1 hW hS (c_X11_ridersOf l D A b a1 u10 hq) mv_X11_303 rfl ⟨Nat.le_of_ble_eq_true rfl, Nat.le_of_ble_eq_true rfl⟩ rfl rfl (Nat.le_of_ble_eq_true rfl) dX11_party_59 (fun H locs hW hS => ?_)
            clear hq
            cases h
            exact z_iret C0 hr hlk hW hS dX11_party_62
        · have h := z_t h hc
          clear hc
          refine lv_aload_n hx hb dX11_party_42 rfl (lv_at hl 0 rfl) ?_
          refine z_getr (o := 1) C0 hW fl_X11_7 rfl rfl rfl dX11_party_43 ?_
          refine lv_bipush (v := (13 : Int32)) hx hb dX11_party_46 (by decide) ?_
          refine lv_iload_n hx hb dX11_party_48 rfl (lv_at hl 1 rfl) ?_
          refine lv_iadd hx hb dX11_party_49 ?_
          obtain ⟨hin, h⟩ := z_if h
          refine z_iald C0 hW rfl rfl hin rfl dX11_party_50 ?_
          clear hin
          refine lv_topi (fun z16 e1 => ?_)
          have h := z_ly h e1
          clear e1
          cases h
          exact z_iret C0 hr hlk hW hS dX11_party_51
      · have h := z_f h hc
        clear hc
        refine lv_iconst (v := (0 : Int32)) hx hb dX11_party_36 (by decide) ?_
        cases h
        exact z_iret C0 hr hlk hW hS dX11_party_37
  · have h := z_ff h hc
    clear hc
    refine lv_iconst (v := (1 : Int32)) hx hb dX11_party_8 (by decide) ?_
    refine lv_goto (tgt := 26) hx hb dX11_party_9 (by decide) ?_
    refine z_puti C0 hW hS fl_X11_42 rfl rfl rfl rfl dX11_party_26 (fun H locs u17 e1 hW hS => ?_)
    have h := z_ly h e1
    clear e1
    refine lv_aload_n hx hb dX11_party_29 rfl (lv_at hl 0 rfl) ?_
    refine z_geti C0 hW fl_X11_42 rfl rfl dX11_party_30 ?_
    refine lv_if_le (tgt := 38) hx hb dX11_party_33 (by decide) (fun hc => ?_) (fun hc => ?_)
    · have h := z_t h hc
      clear hc
      refine lv_iload_n hx hb dX11_party_38 rfl (lv_at hl 2 rfl) ?_
      refine lv_if_ne (tgt := 52) hx hb dX11_party_39 (by decide) (fun hc => ?_) (fun hc => ?_)
      · have h := z_f h hc
        clear hc
        refine lv_iload_n hx hb dX11_party_52 rfl (lv_at hl 2 rfl) ?_
        refine lv_iconst (v := (1 : Int32)) hx hb dX11_party_53 (by decide) ?_
        refine lv_icmp_ne (tgt := 63) hx hb dX11_party_54 (by decide) (fun hc => ?_) (fun hc => ?_)
        · have h := z_f h hc
          clear hc
          refine lv_iload_n hx hb dX11_party_63 rfl (lv_at hl 2 rfl) ?_
          refine lv_iconst (v := (2 : Int32)) hx hb dX11_party_64 (by decide) ?_
          refine lv_icmp_ne (tgt := 85) hx hb dX11_party_65 (by decide) (fun hc => ?_) (fun hc => ?_)
          · have h := z_f h hc
            clear hc
            refine lv_aload_n hx hb dX11_party_85 rfl (lv_at hl 0 rfl) ?_
            refine lv_iload_n hx hb dX11_party_86 rfl (lv_at hl 1 rfl) ?_
            obtain ⟨r18, hq, h⟩ := z_bd h
            refine z_cvi (As := [.int a1]) C0 hml hl.1 hW hS (c_X11_power l D A b a1 u17 hq) mv_X11_315 rfl ⟨Nat.le_of_ble_eq_true rfl, Nat.le_of_ble_eq_true rfl⟩ rfl rfl (Nat.le_of_ble_eq_true rfl) dX11_party_87 (fun H locs hW hS => ?_)
            clear hq
            cases h
            exact z_iret C0 hr hlk hW hS dX11_party_90
          · have h := z_t h hc
            clear hc
            refine lv_aload_n hx hb dX11_party_68 rfl (lv_at hl 0 rfl) ?_
            refine lv_aload_n hx hb dX11_party_69 rfl (lv_at hl 0 rfl) ?_
            refine lv_iload_n hx hb dX11_party_70 rfl (lv_at hl 1 rfl) ?_
            obtain ⟨r19, hq, h⟩ := z_bd h
            refine z_cvi (As := [.int a1]) C0 hml hl.1 hW hS (c_X11_ridersOf l D A b a1 u17 hq) mv_X11_303 rfl ⟨Nat.le_of_ble_eq_true rfl, Nat.le_of_ble_eq_true rfl⟩ rfl rfl (Nat.le_of_ble_eq_true rfl) dX11_party_71 (fun H locs hW hS => ?_)
            clear hq
            refine lv_aload_n hx hb dX11_party_74 rfl (lv_at hl 0 rfl) ?_
            obtain ⟨r20, hq, h⟩ := z_bd h
            refine z_cvi (As := []) C0 hml hl.1 hW hS (c_X11_seated l D A b  u17 hq) mv_X11_306 rfl ⟨Nat.le_of_ble_eq_true rfl, Nat.le_of_ble_eq_true rfl⟩ rfl rfl (Nat.le_of_ble_eq_true rfl) dX11_party_75 (fun H locs hW hS => ?_)
            clear hq
            refine lv_iand hx hb dX11_party_78 ?_
            obtain ⟨r21, hq, h⟩ := z_bd h
            refine z_cvi (As := [.int (r19 &&& r20)]) C0 hml hl.1 hW hS (c_X11_weightOf l D A b (r19 &&& r20) u17 hq) mv_X11_297 rfl ⟨Nat.le_of_ble_eq_true rfl, Nat.le_of_ble_eq_true rfl⟩ rfl rfl (Nat.le_of_ble_eq_true rfl) dX11_party_79 (fun H locs hW hS => ?_)
            clear hq
            refine lv_goto (tgt := 90) hx hb dX11_party_82 (by decide) ?_
            cases h
            exact z_iret C0 hr hlk hW hS dX11_party_90
        · have h := z_t h hc
          clear hc
          refine lv_aload_n hx hb dX11_party_57 rfl (lv_at hl 0 rfl) ?_
          refine lv_iload_n hx hb dX11_party_58 rfl (lv_at hl 1 rfl) ?_
          obtain ⟨r22, hq, h⟩ := z_bd h
          refine z_cvi (As := [.int a1]) C0 hml hl.1 hW hS (c_X11_ridersOf l D A b a1 u17 hq) mv_X11_303 rfl ⟨Nat.le_of_ble_eq_true rfl, Nat.le_of_ble_eq_true rfl⟩ rfl rfl (Nat.le_of_ble_eq_true rfl) dX11_party_59 (fun H locs hW hS => ?_)
          clear hq
          cases h
          exact z_iret C0 hr hlk hW hS dX11_party_62
      · have h := z_t h hc
        clear hc
        refine lv_aload_n hx hb dX11_party_42 rfl (lv_at hl 0 rfl) ?_
        refine z_getr (o := 1) C0 hW fl_X11_7 rfl rfl rfl dX11_party_43 ?_
        refine lv_bipush (v := (13 : Int32)) hx hb dX11_party_46 (by decide) ?_
        refine lv_iload_n hx hb dX11_party_48 rfl (lv_at hl 1 rfl) ?_
        refine lv_iadd hx hb dX11_party_49 ?_
        obtain ⟨hin, h⟩ := z_if h
        refine z_iald C0 hW rfl rfl hin rfl dX11_party_50 ?_
        clear hin
        refine lv_topi (fun z23 e1 => ?_)
        have h := z_ly h e1
        clear e1
        cases h
        exact z_iret C0 hr hlk hW hS dX11_party_51
    · have h := z_f h hc
      clear hc
      refine lv_iconst (v := (0 : Int32)) hx hb dX11_party_36 (by decide) ?_
      cases h
      exact z_iret C0 hr hlk hW hS dX11_party_37
def f_X11_governor  (u : zU) : Option (Int32 × zU) :=
  z_let (z_up u 0 0 (0 : Int32)) (fun u1 => (f_X11_governorNow u1).bind (fun r2 => some (r2, u1)))
theorem f_X11_governor_e  (u : zU) : f_X11_governor  u = z_let (z_up u 0 0 (0 : Int32)) (fun u1 => (f_X11_governorNow u1).bind (fun r2 => some (r2, u1))) := rfl
set_option maxRecDepth 100000 in
set_option maxHeartbeats 4000000 in
theorem c_X11_governor (l : Launch) (D : zD) (A : Nat → Prop) (b : Nat)  (u : zU) {v : Int32} {u' : zU} (h : f_X11_governor  u = some (v, u')) : z_M l D A b gM yX11_governor cX11_governor 1 (some .int) 3 64 [.ref (b + 0)] u (some (.int v)) u' := by
  refine z_enter (by decide) (Nat.le_of_ble_eq_true rfl) ?_
  intro p e s m below meth c ls C0 hr hml hlk hW hS hl
  have hl : lv_has ls 1 [(0, .ref (b + 0))] := hl
  have hx := C0.1
  have hb := C0.2.1
  rw [f_X11_governor_e] at h
  refine lv_aload_n hx hb dX11_governor_0 rfl (lv_at hl 0 rfl) ?_
  refine lv_iconst (v := (0 : Int32)) hx hb dX11_governor_1 (by decide) ?_
  refine z_puti C0 hW hS fl_X11_42 rfl rfl rfl rfl dX11_governor_2 (fun H locs u1 e1 hW hS => ?_)
  have h := z_ly h e1
  clear e1
  refine lv_aload_n hx hb dX11_governor_5 rfl (lv_at hl 0 rfl) ?_
  obtain ⟨r2, hq, h⟩ := z_bd h
  refine z_cvi (As := []) C0 hml hl.1 hW hS (c_X11_governorNow l D A b  u1 hq) mv_X11_249 rfl ⟨Nat.le_of_ble_eq_true rfl, Nat.le_of_ble_eq_true rfl⟩ rfl rfl (Nat.le_of_ble_eq_true rfl) dX11_governor_6 (fun H locs hW hS => ?_)
  clear hq
  cases h
  exact z_iret C0 hr hlk hW hS dX11_governor_9
def f_X11_leanBy_4 : Nat → Int32 → Int32 → Int32 → zU → Option (Int32)
  | 0, _, _, _, _ => none
  | n + 1, x1, x2, x3, u =>
    if (u 1 3) ≤ x3 then (some x2) else (z_let (f_X11_isOf x1 x3 u) (fun t1 => if t1 = true then ((f_X11_waits x3 u).bind (fun t2 => if t2 = true then (f_X11_leanBy_4 n x1 x2 (x3 + (1 : Int32)) u) else ((f_X11_of x3 (0 : Int32) u).bind (fun r3 => z_let (f_X11_placesOf r3 u) (fun r4 => z_let (f_X11_isIn r4 (1 : Int32) (3 : Int32) u) (fun t5 => if t5 = true then ((f_X11_of x3 (1 : Int32) u).bind (fun r9 => z_let (x2 + r9) (fun z10 => f_X11_leanBy_4 n x1 z10 (x3 + (1 : Int32)) u))) else (if r4 ≤ (4 : Int32) then (z_let (x2 + (0 : Int32)) (fun z6 => f_X11_leanBy_4 n x1 z6 (x3 + (1 : Int32)) u)) else ((f_X11_of x3 (1 : Int32) u).bind (fun r7 => z_let (x2 + (-r7)) (fun z8 => f_X11_leanBy_4 n x1 z8 (x3 + (1 : Int32)) u)))))))))) else (f_X11_leanBy_4 n x1 x2 (x3 + (1 : Int32)) u)))
theorem f_X11_leanBy_4_s (n : Nat) (x1 : Int32) (x2 : Int32) (x3 : Int32) (u : zU) : f_X11_leanBy_4 (n + 1) x1 x2 x3 u = if (u 1 3) ≤ x3 then (some x2) else (z_let (f_X11_isOf x1 x3 u) (fun t1 => if t1 = true then ((f_X11_waits x3 u).bind (fun t2 => if t2 = true then (f_X11_leanBy_4 n x1 x2 (x3 + (1 : Int32)) u) else ((f_X11_of x3 (0 : Int32) u).bind (fun r3 => z_let (f_X11_placesOf r3 u) (fun r4 => z_let (f_X11_isIn r4 (1 : Int32) (3 : Int32) u) (fun t5 => if t5 = true then ((f_X11_of x3 (1 : Int32) u).bind (fun r9 => z_let (x2 + r9) (fun z10 => f_X11_leanBy_4 n x1 z10 (x3 + (1 : Int32)) u))) else (if r4 ≤ (4 : Int32) then (z_let (x2 + (0 : Int32)) (fun z6 => f_X11_leanBy_4 n x1 z6 (x3 + (1 : Int32)) u)) else ((f_X11_of x3 (1 : Int32) u).bind (fun r7 => z_let (x2 + (-r7)) (fun z8 => f_X11_leanBy_4 n x1 z8 (x3 + (1 : Int32)) u)))))))))) else (f_X11_leanBy_4 n x1 x2 (x3 + (1 : Int32)) u))) := rfl
def f_X11_leanBy (a1 : Int32) (u : zU) : Option (Int32) :=
  f_X11_leanBy_4 5000 a1 (0 : Int32) (0 : Int32) u
set_option maxRecDepth 100000 in
set_option maxHeartbeats 4000000 in
theorem l_X11_leanBy_4 {l : Launch} {D : zD} {A : Nat → Prop} {b : Nat} {p : Program} {e : Env} {s : State} {m : MethodId} {args : Array Value} {below : List Frame} {meth : Method} {c : Code} {v : Int32} {u : zU} (C0 : z_C p c cX11_leanBy s m args yX11_leanBy.cls D) (hr : meth.sig.returnType = (some .int)) (hml : c.maxLocals = 5) (hlk : meth.locks = false) : ∀ (n : Nat) (x1 : Int32) (x2 : Int32) (x3 : Int32) (H : Heap) (locs : List Loc) (ls : Array Slot), f_X11_leanBy_4 n x1 x2 x3 u = some v → z_W D A b gM u H → va_S A s.heap H locs → lv_has ls 5 [(0, .ref (b + 0)), (1, .int x1), (2, .int x2), (3, .int x3)] → W p l e { frames := 2, cells := 0, slots := 0, locals := 43 } s m args below meth c H locs 0 0 (z_End D A b gM below args s (some (.int v)) u) (F0 m 4 ls []) := by
  have hx := C0.1
  have hb := C0.2.1
  intro n
  induction n with
  | zero => intro x1 x2 x3  H locs ls h hW hS hl; cases h
  | succ n ih =>
    intro x1 x2 x3  H locs ls h hW hS hl
    rw [f_X11_leanBy_4_s] at h
    refine lv_iload_n hx hb dX11_leanBy_4 rfl (lv_at hl 3 rfl) ?_
    refine lv_aload_n hx hb dX11_leanBy_5 rfl (lv_at hl 0 rfl) ?_
    refine z_getr (o := 1) C0 hW fl_X11_7 rfl rfl rfl dX11_leanBy_6 ?_
    refine lv_iconst (v := (3 : Int32)) hx hb dX11_leanBy_9 (by decide) ?_
    refine z_iald (k := 3) C0 hW rfl rfl (by decide) (by decide) dX11_leanBy_10 ?_
    refine lv_icmp_ge (tgt := 90) hx hb dX11_leanBy_11 (by decide) (fun hc => ?_) (fun hc => ?_)
    · have h := z_t h hc
      clear hc
      refine lv_iload_n hx hb dX11_leanBy_90 rfl (lv_at hl 2 rfl) ?_
      cases h
      exact z_iret C0 hr hlk hW hS dX11_leanBy_91
    · have h := z_f h hc
      clear hc
      refine lv_iload_n hx hb dX11_leanBy_14 rfl (lv_at hl 1 rfl) ?_
      refine lv_iload_n hx hb dX11_leanBy_15 rfl (lv_at hl 3 rfl) ?_
      obtain ⟨t1, hq⟩ : ∃ y, f_X11_isOf x1 x3 u = y := ⟨_, rfl⟩
      have h := z_lz h hq
      refine z_csi (As := [.int x1, .int x3]) C0 hml hl.1 hW hS (c_X11_isOf l D A b x1 x3 u hq) ms_X11_262 ⟨Nat.le_of_ble_eq_true rfl, Nat.le_of_ble_eq_true rfl⟩ rfl rfl (Nat.le_of_ble_eq_true rfl) dX11_leanBy_16 (fun H locs hW hS => ?_)
      clear hq
      refine z_ifeqZ C0 (tgt := 84) dX11_leanBy_19 (by decide) (fun hc => ?_) (fun hc => ?_)
      · have h := z_ff h hc
        clear hc
        refine lv_iinc (v := x3 + (1 : Int32)) (lv' := [(3, .int (x3 + (1 : Int32))), (0, .ref (b + 0)), (1, .int x1), (2, .int x2)]) hx hb dX11_leanBy_84 hl (k := 3) rfl rfl (by decide) rfl (fun ls hl => ?_)
        refine lv_goto (tgt := 4) hx hb dX11_leanBy_87 (by decide) ?_
        exact ih _ _ _ _ _ _ h hW hS (lv_sub hl [1, 2, 3, 0] rfl)
      · have h := z_t h hc
        clear hc
        refine lv_aload_n hx hb dX11_leanBy_22 rfl (lv_at hl 0 rfl) ?_
        refine lv_iload_n hx hb dX11_leanBy_23 rfl (lv_at hl 3 rfl) ?_
        obtain ⟨t2, hq, h⟩ := z_bd h
        refine z_cvi (As := [.int x3]) C0 hml hl.1 hW hS (c_X11_waits l D A b x3 u hq) mv_X11_255 rfl ⟨Nat.le_of_ble_eq_true rfl, Nat.le_of_ble_eq_true rfl⟩ rfl rfl (Nat.le_of_ble_eq_true rfl) dX11_leanBy_24 (fun H locs hW hS => ?_)
        clear hq
        refine z_ifeqZ C0 (tgt := 33) dX11_leanBy_27 (by decide) (fun hc => ?_) (fun hc => ?_)
        · have h := z_ff h hc
          clear hc
          refine lv_aload_n hx hb dX11_leanBy_33 rfl (lv_at hl 0 rfl) ?_
          refine lv_aload_n hx hb dX11_leanBy_34 rfl (lv_at hl 0 rfl) ?_
          refine lv_iload_n hx hb dX11_leanBy_35 rfl (lv_at hl 3 rfl) ?_
          refine lv_iconst (v := (0 : Int32)) hx hb dX11_leanBy_36 (by decide) ?_
          obtain ⟨r3, hq, h⟩ := z_bd h
          refine z_cvi (As := [.int x3, .int (0 : Int32)]) C0 hml hl.1 hW hS (c_X11_of l D A b x3 (0 : Int32) u hq) mv_X11_49 rfl ⟨Nat.le_of_ble_eq_true rfl, Nat.le_of_ble_eq_true rfl⟩ rfl rfl (Nat.le_of_ble_eq_true rfl) dX11_leanBy_37 (fun H locs hW hS => ?_)
          clear hq
          obtain ⟨r4, hq⟩ : ∃ y, f_X11_placesOf r3 u = y := ⟨_, rfl⟩
          have h := z_lz h hq
          refine z_cvi (As := [.int r3]) C0 hml hl.1 hW hS (c_X11_placesOf l D A b r3 u hq) mv_X11_60 rfl ⟨Nat.le_of_ble_eq_true rfl, Nat.le_of_ble_eq_true rfl⟩ rfl rfl (Nat.le_of_ble_eq_true rfl) dX11_leanBy_40 (fun H locs hW hS => ?_)
          clear hq
          refine lv_istore (lv' := [(4, .int r4), (0, .ref (b + 0)), (1, .int x1), (2, .int x2), (3, .int x3)]) hx hb dX11_leanBy_43 hl (by decide) rfl (fun ls hl => ?_)
          refine lv_iload_n hx hb dX11_leanBy_45 rfl (lv_at hl 3 rfl) ?_
          refine lv_iload hx hb dX11_leanBy_46 (lv_at hl 0 rfl) ?_
          refine lv_iconst (v := (1 : Int32)) hx hb dX11_leanBy_48 (by decide) ?_
          refine lv_iconst (v := (3 : Int32)) hx hb dX11_leanBy_49 (by decide) ?_
          obtain ⟨t5, hq⟩ : ∃ y, f_X11_isIn r4 (1 : Int32) (3 : Int32) u = y := ⟨_, rfl⟩
          have h := z_lz h hq
          refine z_csi (As := [.int r4, .int (1 : Int32), .int (3 : Int32)]) C0 hml hl.1 hW hS (c_X11_isIn l D A b r4 (1 : Int32) (3 : Int32) u hq) ms_X11_45 ⟨Nat.le_of_ble_eq_true rfl, Nat.le_of_ble_eq_true rfl⟩ rfl rfl (Nat.le_of_ble_eq_true rfl) dX11_leanBy_50 (fun H locs hW hS => ?_)
          clear hq
          refine z_ifeqZ C0 (tgt := 65) dX11_leanBy_53 (by decide) (fun hc => ?_) (fun hc => ?_)
          · have h := z_ff h hc
            clear hc
            refine lv_iload hx hb dX11_leanBy_65 (lv_at hl 0 rfl) ?_
            refine lv_iconst (v := (4 : Int32)) hx hb dX11_leanBy_67 (by decide) ?_
            refine lv_icmp_le (tgt := 81) hx hb dX11_leanBy_68 (by decide) (fun hc => ?_) (fun hc => ?_)
            · have h := z_t h hc
              clear hc
              refine lv_iconst (v := (0 : Int32)) hx hb dX11_leanBy_81 (by decide) ?_
              refine lv_iadd hx hb dX11_leanBy_82 ?_
              refine lv_topi (fun z6 e1 => ?_)
              have h := z_ly h e1
              clear e1
              refine lv_istore_n (lv' := [(2, .int z6), (4, .int r4), (0, .ref (b + 0)), (1, .int x1), (3, .int x3)]) hx hb dX11_leanBy_83 rfl hl (by decide) rfl (fun ls hl => ?_)
              refine lv_iinc (v := x3 + (1 : Int32)) (lv' := [(3, .int (x3 + (1 : Int32))), (2, .int z6), (4, .int r4), (0, .ref (b + 0)), (1, .int x1)]) hx hb dX11_leanBy_84 hl (k := 4) rfl rfl (by decide) rfl (fun ls hl => ?_)
              refine lv_goto (tgt := 4) hx hb dX11_leanBy_87 (by decide) ?_
              exact ih _ _ _ _ _ _ h hW hS (lv_sub hl [3, 4, 1, 0] rfl)
            · have h := z_f h hc
              clear hc
              refine lv_aload_n hx hb dX11_leanBy_71 rfl (lv_at hl 1 rfl) ?_
              refine lv_iload_n hx hb dX11_leanBy_72 rfl (lv_at hl 4 rfl) ?_
              refine lv_iconst (v := (1 : Int32)) hx hb dX11_leanBy_73 (by decide) ?_
              obtain ⟨r7, hq, h⟩ := z_bd h
              refine z_cvi (As := [.int x3, .int (1 : Int32)]) C0 hml hl.1 hW hS (c_X11_of l D A b x3 (1 : Int32) u hq) mv_X11_49 rfl ⟨Nat.le_of_ble_eq_true rfl, Nat.le_of_ble_eq_true rfl⟩ rfl rfl (Nat.le_of_ble_eq_true rfl) dX11_leanBy_74 (fun H locs hW hS => ?_)
              clear hq
              refine lv_ineg hx hb dX11_leanBy_77 ?_
              refine lv_goto (tgt := 82) hx hb dX11_leanBy_78 (by decide) ?_
              refine lv_iadd hx hb dX11_leanBy_82 ?_
              refine lv_topi (fun z8 e1 => ?_)
              have h := z_ly h e1
              clear e1
              refine lv_istore_n (lv' := [(2, .int z8), (4, .int r4), (0, .ref (b + 0)), (1, .int x1), (3, .int x3)]) hx hb dX11_leanBy_83 rfl hl (by decide) rfl (fun ls hl => ?_)
              refine lv_iinc (v := x3 + (1 : Int32)) (lv' := [(3, .int (x3 + (1 : Int32))), (2, .int z8), (4, .int r4), (0, .ref (b + 0)), (1, .int x1)]) hx hb dX11_leanBy_84 hl (k := 4) rfl rfl (by decide) rfl (fun ls hl => ?_)
              refine lv_goto (tgt := 4) hx hb dX11_leanBy_87 (by decide) ?_
              exact ih _ _ _ _ _ _ h hW hS (lv_sub hl [3, 4, 1, 0] rfl)
          · have h := z_t h hc
            clear hc
            refine lv_aload_n hx hb dX11_leanBy_56 rfl (lv_at hl 1 rfl) ?_
            refine lv_iload_n hx hb dX11_leanBy_57 rfl (lv_at hl 4 rfl) ?_
            refine lv_iconst (v := (1 : Int32)) hx hb dX11_leanBy_58 (by decide) ?_
            obtain ⟨r9, hq, h⟩ := z_bd h
            refine z_cvi (As := [.int x3, .int (1 : Int32)]) C0 hml hl.1 hW hS (c_X11_of l D A b x3 (1 : Int32) u hq) mv_X11_49 rfl ⟨Nat.le_of_ble_eq_true rfl, Nat.le_of_ble_eq_true rfl⟩ rfl rfl (Nat.le_of_ble_eq_true rfl) dX11_leanBy_59 (fun H locs hW hS => ?_)
            clear hq
            refine lv_goto (tgt := 82) hx hb dX11_leanBy_62 (by decide) ?_
            refine lv_iadd hx hb dX11_leanBy_82 ?_
            refine lv_topi (fun z10 e1 => ?_)
            have h := z_ly h e1
            clear e1
            refine lv_istore_n (lv' := [(2, .int z10), (4, .int r4), (0, .ref (b + 0)), (1, .int x1), (3, .int x3)]) hx hb dX11_leanBy_83 rfl hl (by decide) rfl (fun ls hl => ?_)
            refine lv_iinc (v := x3 + (1 : Int32)) (lv' := [(3, .int (x3 + (1 : Int32))), (2, .int z10), (4, .int r4), (0, .ref (b + 0)), (1, .int x1)]) hx hb dX11_leanBy_84 hl (k := 4) rfl rfl (by decide) rfl (fun ls hl => ?_)
            refine lv_goto (tgt := 4) hx hb dX11_leanBy_87 (by decide) ?_
            exact ih _ _ _ _ _ _ h hW hS (lv_sub hl [3, 4, 1, 0] rfl)
        · have h := z_t h hc
          clear hc
          refine lv_goto (tgt := 84) hx hb dX11_leanBy_30 (by decide) ?_
          refine lv_iinc (v := x3 + (1 : Int32)) (lv' := [(3, .int (x3 + (1 : Int32))), (0, .ref (b + 0)), (1, .int x1), (2, .int x2)]) hx hb dX11_leanBy_84 hl (k := 3) rfl rfl (by decide) rfl (fun ls hl => ?_)
          refine lv_goto (tgt := 4) hx hb dX11_leanBy_87 (by decide) ?_
          exact ih _ _ _ _ _ _ h hW hS (lv_sub hl [1, 2, 3, 0] rfl)
theorem f_X11_leanBy_e (a1 : Int32) (u : zU) : f_X11_leanBy a1 u = f_X11_leanBy_4 5000 a1 (0 : Int32) (0 : Int32) u := rfl
set_option maxRecDepth 100000 in
set_option maxHeartbeats 4000000 in
theorem c_X11_leanBy (l : Launch) (D : zD) (A : Nat → Prop) (b : Nat) (a1 : Int32) (u : zU) {v : Int32} (h : f_X11_leanBy a1 u = some v) : z_M l D A b gM yX11_leanBy cX11_leanBy 5 (some .int) 2 43 [.ref (b + 0), .int a1] u (some (.int v)) u := by
  refine z_enter (by decide) (Nat.le_of_ble_eq_true rfl) ?_
  intro p e s m below meth c ls C0 hr hml hlk hW hS hl
  have hl : lv_has ls 5 [(0, .ref (b + 0)), (1, .int a1)] := hl
  have hx := C0.1
  have hb := C0.2.1
  rw [f_X11_leanBy_e] at h
  refine lv_iconst (v := (0 : Int32)) hx hb dX11_leanBy_0 (by decide) ?_
  refine lv_istore_n (lv' := [(2, .int (0 : Int32)), (0, .ref (b + 0)), (1, .int a1)]) hx hb dX11_leanBy_1 rfl hl (by decide) rfl (fun ls hl => ?_)
  refine lv_iconst (v := (0 : Int32)) hx hb dX11_leanBy_2 (by decide) ?_
  refine lv_istore_n (lv' := [(3, .int (0 : Int32)), (2, .int (0 : Int32)), (0, .ref (b + 0)), (1, .int a1)]) hx hb dX11_leanBy_3 rfl hl (by decide) rfl (fun ls hl => ?_)
  exact l_X11_leanBy_4 C0 hr hml hlk 5000 _ _ _ _ _ _ h hW hS (lv_sub hl [2, 3, 1, 0] rfl)
def f_X11_lean  (u : zU) : Option (Int32 × zU) :=
  z_let (z_up u 0 0 (0 : Int32)) (fun u1 => (f_X11_leanBy (255 : Int32) u1).bind (fun r2 => some (r2, u1)))
theorem f_X11_lean_e  (u : zU) : f_X11_lean  u = z_let (z_up u 0 0 (0 : Int32)) (fun u1 => (f_X11_leanBy (255 : Int32) u1).bind (fun r2 => some (r2, u1))) := rfl
set_option maxRecDepth 100000 in
set_option maxHeartbeats 4000000 in
theorem c_X11_lean (l : Launch) (D : zD) (A : Nat → Prop) (b : Nat)  (u : zU) {v : Int32} {u' : zU} (h : f_X11_lean  u = some (v, u')) : z_M l D A b gM yX11_lean cX11_lean 1 (some .int) 3 67 [.ref (b + 0)] u (some (.int v)) u' := by
  refine z_enter (by decide) (Nat.le_of_ble_eq_true rfl) ?_
  intro p e s m below meth c ls C0 hr hml hlk hW hS hl
  have hl : lv_has ls 1 [(0, .ref (b + 0))] := hl
  have hx := C0.1
  have hb := C0.2.1
  rw [f_X11_lean_e] at h
  refine lv_aload_n hx hb dX11_lean_0 rfl (lv_at hl 0 rfl) ?_
  refine lv_iconst (v := (0 : Int32)) hx hb dX11_lean_1 (by decide) ?_
  refine z_puti C0 hW hS fl_X11_42 rfl rfl rfl rfl dX11_lean_2 (fun H locs u1 e1 hW hS => ?_)
  have h := z_ly h e1
  clear e1
  refine lv_aload_n hx hb dX11_lean_5 rfl (lv_at hl 0 rfl) ?_
  refine lv_sipush (v := (255 : Int32)) hx hb dX11_lean_6 (by decide) ?_
  obtain ⟨r2, hq, h⟩ := z_bd h
  refine z_cvi (As := [.int (255 : Int32)]) C0 hml hl.1 hW hS (c_X11_leanBy l D A b (255 : Int32) u1 hq) mv_X11_327 rfl ⟨Nat.le_of_ble_eq_true rfl, Nat.le_of_ble_eq_true rfl⟩ rfl rfl (Nat.le_of_ble_eq_true rfl) dX11_lean_9 (fun H locs hW hS => ?_)
  clear hq
  cases h
  exact z_iret C0 hr hlk hW hS dX11_lean_12
def f_X11_seat_43 : Nat → Int32 → Int32 → Int32 → Int32 → Int32 → zU → Option (Int32 × zU)
  | 0, _, _, _, _, _, _ => none
  | n + 1, x1, x2, x3, x4, x5, u =>
    if (8 : Int32) ≤ x5 then (some (x3, u)) else (if x5 = x2 then ((f_X11_put x1 (0 : Int32) x5 u).bind (fun u4 => (f_X11_leanBy (255 : Int32) u4).bind (fun r5 => (f_X11_put x1 (0 : Int32) x2 u4).bind (fun u6 => if 0 ≤ r5 then (if r5 < x4 then (f_X11_seat_43 n x1 x2 x5 r5 (x5 + (1 : Int32)) u6) else (f_X11_seat_43 n x1 x2 x3 x4 (x5 + (1 : Int32)) u6)) else (z_let (-r5) (fun z7 => if z7 < x4 then (f_X11_seat_43 n x1 x2 x5 z7 (x5 + (1 : Int32)) u6) else (f_X11_seat_43 n x1 x2 x3 x4 (x5 + (1 : Int32)) u6))))))) else ((f_X11_hasRoom x5 u).bind (fun t8 => if t8 = true then ((f_X11_put x1 (0 : Int32) x5 u).bind (fun u9 => (f_X11_leanBy (255 : Int32) u9).bind (fun r10 => (f_X11_put x1 (0 : Int32) x2 u9).bind (fun u11 => if 0 ≤ r10 then (if r10 < x4 then (f_X11_seat_43 n x1 x2 x5 r10 (x5 + (1 : Int32)) u11) else (f_X11_seat_43 n x1 x2 x3 x4 (x5 + (1 : Int32)) u11)) else (z_let (-r10) (fun z12 => if z12 < x4 then (f_X11_seat_43 n x1 x2 x5 z12 (x5 + (1 : Int32)) u11) else (f_X11_seat_43 n x1 x2 x3 x4 (x5 + (1 : Int32)) u11))))))) else (f_X11_seat_43 n x1 x2 x3 x4 (x5 + (1 : Int32)) u))))
theorem f_X11_seat_43_s (n : Nat) (x1 : Int32) (x2 : Int32) (x3 : Int32) (x4 : Int32) (x5 : Int32) (u : zU) : f_X11_seat_43 (n + 1) x1 x2 x3 x4 x5 u = if (8 : Int32) ≤ x5 then (some (x3, u)) else (if x5 = x2 then ((f_X11_put x1 (0 : Int32) x5 u).bind (fun u4 => (f_X11_leanBy (255 : Int32) u4).bind (fun r5 => (f_X11_put x1 (0 : Int32) x2 u4).bind (fun u6 => if 0 ≤ r5 then (if r5 < x4 then (f_X11_seat_43 n x1 x2 x5 r5 (x5 + (1 : Int32)) u6) else (f_X11_seat_43 n x1 x2 x3 x4 (x5 + (1 : Int32)) u6)) else (z_let (-r5) (fun z7 => if z7 < x4 then (f_X11_seat_43 n x1 x2 x5 z7 (x5 + (1 : Int32)) u6) else (f_X11_seat_43 n x1 x2 x3 x4 (x5 + (1 : Int32)) u6))))))) else ((f_X11_hasRoom x5 u).bind (fun t8 => if t8 = true then ((f_X11_put x1 (0 : Int32) x5 u).bind (fun u9 => (f_X11_leanBy (255 : Int32) u9).bind (fun r10 => (f_X11_put x1 (0 : Int32) x2 u9).bind (fun u11 => if 0 ≤ r10 then (if r10 < x4 then (f_X11_seat_43 n x1 x2 x5 r10 (x5 + (1 : Int32)) u11) else (f_X11_seat_43 n x1 x2 x3 x4 (x5 + (1 : Int32)) u11)) else (z_let (-r10) (fun z12 => if z12 < x4 then (f_X11_seat_43 n x1 x2 x5 z12 (x5 + (1 : Int32)) u11) else (f_X11_seat_43 n x1 x2 x3 x4 (x5 + (1 : Int32)) u11))))))) else (f_X11_seat_43 n x1 x2 x3 x4 (x5 + (1 : Int32)) u)))) := rfl
def f_X11_seat (a1 : Int32) (u : zU) : Option (Int32 × zU) :=
  z_let (f_X11_isRider a1 u) (fun t1 => if t1 = true then (z_let (z_up u 0 0 (0 : Int32)) (fun u2 => if (u2 0 0) ≤ 0 then ((f_X11_of a1 (0 : Int32) u2).bind (fun r3 => f_X11_seat_43 5000 a1 r3 (-1 : Int32) (2000000000 : Int32) (0 : Int32) u2)) else (some ((0 : Int32), u2)))) else (z_let (z_up u 0 0 (1 : Int32)) (fun u13 => if (u13 0 0) ≤ 0 then ((f_X11_of a1 (0 : Int32) u13).bind (fun r14 => f_X11_seat_43 5000 a1 r14 (-1 : Int32) (2000000000 : Int32) (0 : Int32) u13)) else (some ((0 : Int32), u13)))))
set_option maxRecDepth 100000 in
set_option maxHeartbeats 4000000 in
theorem l_X11_seat_43 {l : Launch} {D : zD} {A : Nat → Prop} {b : Nat} {p : Program} {e : Env} {s : State} {m : MethodId} {args : Array Value} {below : List Frame} {meth : Method} {c : Code} {v : Int32} {u' : zU} (C0 : z_C p c cX11_seat s m args yX11_seat.cls D) (hr : meth.sig.returnType = (some .int)) (hml : c.maxLocals = 7) (hlk : meth.locks = false) : ∀ (n : Nat) (x1 : Int32) (x2 : Int32) (x3 : Int32) (x4 : Int32) (x5 : Int32) (u : zU) (H : Heap) (locs : List Loc) (ls : Array Slot), f_X11_seat_43 n x1 x2 x3 x4 x5 u = some (v, u') → z_W D A b gM u H → va_S A s.heap H locs → lv_has ls 7 [(0, .ref (b + 0)), (1, .int x1), (2, .int x2), (3, .int x3), (4, .int x4), (5, .int x5)] → W p l e { frames := 3, cells := 0, slots := 0, locals := 67 } s m args below meth c H locs 0 0 (z_End D A b gM below args s (some (.int v)) u') (F0 m 43 ls []) := by
  have hx := C0.1
  have hb := C0.2.1
  intro n
  induction n with
  | zero => intro x1 x2 x3 x4 x5 u H locs ls h hW hS hl; cases h
  | succ n ih =>
    intro x1 x2 x3 x4 x5 u H locs ls h hW hS hl
    rw [f_X11_seat_43_s] at h
    refine lv_iload hx hb dX11_seat_43 (lv_at hl 5 rfl) ?_
    refine lv_bipush (v := (8 : Int32)) hx hb dX11_seat_45 (by decide) ?_
    refine lv_icmp_ge (tgt := 130) hx hb dX11_seat_47 (by decide) (fun hc => ?_) (fun hc => ?_)
    · have h := z_t h hc
      clear hc
      refine lv_iload_n hx hb dX11_seat_130 rfl (lv_at hl 3 rfl) ?_
      cases h
      exact z_iret C0 hr hlk hW hS dX11_seat_131
    · have h := z_f h hc
      clear hc
      refine lv_iload hx hb dX11_seat_50 (lv_at hl 5 rfl) ?_
      refine lv_iload_n hx hb dX11_seat_52 rfl (lv_at hl 2 rfl) ?_
      refine lv_icmp_eq (tgt := 68) hx hb dX11_seat_53 (by decide) (fun hc => ?_) (fun hc => ?_)
      · have h := z_t h hc
        clear hc
        refine lv_aload_n hx hb dX11_seat_68 rfl (lv_at hl 0 rfl) ?_
        refine lv_iload_n hx hb dX11_seat_69 rfl (lv_at hl 1 rfl) ?_
        refine lv_iconst (v := (0 : Int32)) hx hb dX11_seat_70 (by decide) ?_
        refine lv_iload hx hb dX11_seat_71 (lv_at hl 5 rfl) ?_
        obtain ⟨u4, hq, h⟩ := z_bd h
        refine z_cvv (As := [.int x1, .int (0 : Int32), .int x5]) C0 hml hl.1 hW hS (c_X11_put l D A b x1 (0 : Int32) x5 u hq) mv_X11_66 rfl ⟨Nat.le_of_ble_eq_true rfl, Nat.le_of_ble_eq_true rfl⟩ rfl rfl (Nat.le_of_ble_eq_true rfl) dX11_seat_73 (fun H locs hW hS => ?_)
        clear hq
        refine lv_aload_n hx hb dX11_seat_76 rfl (lv_at hl 0 rfl) ?_
        refine lv_sipush (v := (255 : Int32)) hx hb dX11_seat_77 (by decide) ?_
        obtain ⟨r5, hq, h⟩ := z_bd h
        refine z_cvi (As := [.int (255 : Int32)]) C0 hml hl.1 hW hS (c_X11_leanBy l D A b (255 : Int32) u4 hq) mv_X11_327 rfl ⟨Nat.le_of_ble_eq_true rfl, Nat.le_of_ble_eq_true rfl⟩ rfl rfl (Nat.le_of_ble_eq_true rfl) dX11_seat_80 (fun H locs hW hS => ?_)
        clear hq
        refine lv_istore (lv' := [(6, .int r5), (0, .ref (b + 0)), (1, .int x1), (2, .int x2), (3, .int x3), (4, .int x4), (5, .int x5)]) hx hb dX11_seat_83 hl (by decide) rfl (fun ls hl => ?_)
        refine lv_aload_n hx hb dX11_seat_85 rfl (lv_at hl 1 rfl) ?_
        refine lv_iload_n hx hb dX11_seat_86 rfl (lv_at hl 2 rfl) ?_
        refine lv_iconst (v := (0 : Int32)) hx hb dX11_seat_87 (by decide) ?_
        refine lv_iload_n hx hb dX11_seat_88 rfl (lv_at hl 3 rfl) ?_
        obtain ⟨u6, hq, h⟩ := z_bd h
        refine z_cvv (As := [.int x1, .int (0 : Int32), .int x2]) C0 hml hl.1 hW hS (c_X11_put l D A b x1 (0 : Int32) x2 u4 hq) mv_X11_66 rfl ⟨Nat.le_of_ble_eq_true rfl, Nat.le_of_ble_eq_true rfl⟩ rfl rfl (Nat.le_of_ble_eq_true rfl) dX11_seat_89 (fun H locs hW hS => ?_)
        clear hq
        refine lv_iload hx hb dX11_seat_92 (lv_at hl 0 rfl) ?_
        refine lv_if_ge (tgt := 103) hx hb dX11_seat_94 (by decide) (fun hc => ?_) (fun hc => ?_)
        · have h := z_t h hc
          clear hc
          refine lv_iload hx hb dX11_seat_103 (lv_at hl 0 rfl) ?_
          refine lv_istore (lv' := [(6, .int r5), (0, .ref (b + 0)), (1, .int x1), (2, .int x2), (3, .int x3), (4, .int x4), (5, .int x5)]) hx hb dX11_seat_105 hl (by decide) rfl (fun ls hl => ?_)
          refine lv_iload hx hb dX11_seat_107 (lv_at hl 0 rfl) ?_
          refine lv_iload hx hb dX11_seat_109 (lv_at hl 5 rfl) ?_
          refine lv_icmp_lt (tgt := 117) hx hb dX11_seat_111 (by decide) (fun hc => ?_) (fun hc => ?_)
          · have h := z_t h hc
            clear hc
            refine lv_iload hx hb dX11_seat_117 (lv_at hl 0 rfl) ?_
            refine lv_istore (lv' := [(4, .int r5), (6, .int r5), (0, .ref (b + 0)), (1, .int x1), (2, .int x2), (3, .int x3), (5, .int x5)]) hx hb dX11_seat_119 hl (by decide) rfl (fun ls hl => ?_)
            refine lv_iload hx hb dX11_seat_121 (lv_at hl 6 rfl) ?_
            refine lv_istore_n (lv' := [(3, .int x5), (4, .int r5), (6, .int r5), (0, .ref (b + 0)), (1, .int x1), (2, .int x2), (5, .int x5)]) hx hb dX11_seat_123 rfl hl (by decide) rfl (fun ls hl => ?_)
            refine lv_iinc (v := x5 + (1 : Int32)) (lv' := [(5, .int (x5 + (1 : Int32))), (3, .int x5), (4, .int r5), (6, .int r5), (0, .ref (b + 0)), (1, .int x1), (2, .int x2)]) hx hb dX11_seat_124 hl (k := 6) rfl rfl (by decide) rfl (fun ls hl => ?_)
            refine lv_goto (tgt := 43) hx hb dX11_seat_127 (by decide) ?_
            exact ih _ _ _ _ _ _ _ _ _ h hW hS (lv_sub hl [4, 5, 6, 1, 2, 0] rfl)
          · have h := z_f h hc
            clear hc
            refine lv_goto (tgt := 124) hx hb dX11_seat_114 (by decide) ?_
            refine lv_iinc (v := x5 + (1 : Int32)) (lv' := [(5, .int (x5 + (1 : Int32))), (6, .int r5), (0, .ref (b + 0)), (1, .int x1), (2, .int x2), (3, .int x3), (4, .int x4)]) hx hb dX11_seat_124 hl (k := 6) rfl rfl (by decide) rfl (fun ls hl => ?_)
            refine lv_goto (tgt := 43) hx hb dX11_seat_127 (by decide) ?_
            exact ih _ _ _ _ _ _ _ _ _ h hW hS (lv_sub hl [2, 3, 4, 5, 6, 0] rfl)
        · have h := z_f h hc
          clear hc
          refine lv_iload hx hb dX11_seat_97 (lv_at hl 0 rfl) ?_
          refine lv_ineg hx hb dX11_seat_99 ?_
          refine lv_goto (tgt := 105) hx hb dX11_seat_100 (by decide) ?_
          refine lv_topi (fun z7 e1 => ?_)
          have h := z_ly h e1
          clear e1
          refine lv_istore (lv' := [(6, .int z7), (0, .ref (b + 0)), (1, .int x1), (2, .int x2), (3, .int x3), (4, .int x4), (5, .int x5)]) hx hb dX11_seat_105 hl (by decide) rfl (fun ls hl => ?_)
          refine lv_iload hx hb dX11_seat_107 (lv_at hl 0 rfl) ?_
          refine lv_iload hx hb dX11_seat_109 (lv_at hl 5 rfl) ?_
          refine lv_icmp_lt (tgt := 117) hx hb dX11_seat_111 (by decide) (fun hc => ?_) (fun hc => ?_)
          · have h := z_t h hc
            clear hc
            refine lv_iload hx hb dX11_seat_117 (lv_at hl 0 rfl) ?_
            refine lv_istore (lv' := [(4, .int z7), (6, .int z7), (0, .ref (b + 0)), (1, .int x1), (2, .int x2), (3, .int x3), (5, .int x5)]) hx hb dX11_seat_119 hl (by decide) rfl (fun ls hl => ?_)
            refine lv_iload hx hb dX11_seat_121 (lv_at hl 6 rfl) ?_
            refine lv_istore_n (lv' := [(3, .int x5), (4, .int z7), (6, .int z7), (0, .ref (b + 0)), (1, .int x1), (2, .int x2), (5, .int x5)]) hx hb dX11_seat_123 rfl hl (by decide) rfl (fun ls hl => ?_)
            refine lv_iinc (v := x5 + (1 : Int32)) (lv' := [(5, .int (x5 + (1 : Int32))), (3, .int x5), (4, .int z7), (6, .int z7), (0, .ref (b + 0)), (1, .int x1), (2, .int x2)]) hx hb dX11_seat_124 hl (k := 6) rfl rfl (by decide) rfl (fun ls hl => ?_)
            refine lv_goto (tgt := 43) hx hb dX11_seat_127 (by decide) ?_
            exact ih _ _ _ _ _ _ _ _ _ h hW hS (lv_sub hl [4, 5, 6, 1, 2, 0] rfl)
          · have h := z_f h hc
            clear hc
            refine lv_goto (tgt := 124) hx hb dX11_seat_114 (by decide) ?_
            refine lv_iinc (v := x5 + (1 : Int32)) (lv' := [(5, .int (x5 + (1 : Int32))), (6, .int z7), (0, .ref (b + 0)), (1, .int x1), (2, .int x2), (3, .int x3), (4, .int x4)]) hx hb dX11_seat_124 hl (k := 6) rfl rfl (by decide) rfl (fun ls hl => ?_)
            refine lv_goto (tgt := 43) hx hb dX11_seat_127 (by decide) ?_
            exact ih _ _ _ _ _ _ _ _ _ h hW hS (lv_sub hl [2, 3, 4, 5, 6, 0] rfl)
      · have h := z_f h hc
        clear hc
        refine lv_aload_n hx hb dX11_seat_56 rfl (lv_at hl 0 rfl) ?_
        refine lv_iload hx hb dX11_seat_57 (lv_at hl 5 rfl) ?_
        obtain ⟨t8, hq, h⟩ := z_bd h
        refine z_cvi (As := [.int x5]) C0 hml hl.1 hW hS (c_X11_hasRoom l D A b x5 u hq) mv_X11_127 rfl ⟨Nat.le_of_ble_eq_true rfl, Nat.le_of_ble_eq_true rfl⟩ rfl rfl (Nat.le_of_ble_eq_true rfl) dX11_seat_59 (fun H locs hW hS => ?_)
        clear hq
        refine z_ifneZ C0 (tgt := 68) dX11_seat_62 (by decide) (fun hc => ?_) (fun hc => ?_)
        · have h := z_t h hc
          clear hc
          refine lv_aload_n hx hb dX11_seat_68 rfl (lv_at hl 0 rfl) ?_
          refine lv_iload_n hx hb dX11_seat_69 rfl (lv_at hl 1 rfl) ?_
          refine lv_iconst (v := (0 : Int32)) hx hb dX11_seat_70 (by decide) ?_
          refine lv_iload hx hb dX11_seat_71 (lv_at hl 5 rfl) ?_
          obtain ⟨u9, hq, h⟩ := z_bd h
          refine z_cvv (As := [.int x1, .int (0 : Int32), .int x5]) C0 hml hl.1 hW hS (c_X11_put l D A b x1 (0 : Int32) x5 u hq) mv_X11_66 rfl ⟨Nat.le_of_ble_eq_true rfl, Nat.le_of_ble_eq_true rfl⟩ rfl rfl (Nat.le_of_ble_eq_true rfl) dX11_seat_73 (fun H locs hW hS => ?_)
          clear hq
          refine lv_aload_n hx hb dX11_seat_76 rfl (lv_at hl 0 rfl) ?_
          refine lv_sipush (v := (255 : Int32)) hx hb dX11_seat_77 (by decide) ?_
          obtain ⟨r10, hq, h⟩ := z_bd h
          refine z_cvi (As := [.int (255 : Int32)]) C0 hml hl.1 hW hS (c_X11_leanBy l D A b (255 : Int32) u9 hq) mv_X11_327 rfl ⟨Nat.le_of_ble_eq_true rfl, Nat.le_of_ble_eq_true rfl⟩ rfl rfl (Nat.le_of_ble_eq_true rfl) dX11_seat_80 (fun H locs hW hS => ?_)
          clear hq
          refine lv_istore (lv' := [(6, .int r10), (0, .ref (b + 0)), (1, .int x1), (2, .int x2), (3, .int x3), (4, .int x4), (5, .int x5)]) hx hb dX11_seat_83 hl (by decide) rfl (fun ls hl => ?_)
          refine lv_aload_n hx hb dX11_seat_85 rfl (lv_at hl 1 rfl) ?_
          refine lv_iload_n hx hb dX11_seat_86 rfl (lv_at hl 2 rfl) ?_
          refine lv_iconst (v := (0 : Int32)) hx hb dX11_seat_87 (by decide) ?_
          refine lv_iload_n hx hb dX11_seat_88 rfl (lv_at hl 3 rfl) ?_
          obtain ⟨u11, hq, h⟩ := z_bd h
          refine z_cvv (As := [.int x1, .int (0 : Int32), .int x2]) C0 hml hl.1 hW hS (c_X11_put l D A b x1 (0 : Int32) x2 u9 hq) mv_X11_66 rfl ⟨Nat.le_of_ble_eq_true rfl, Nat.le_of_ble_eq_true rfl⟩ rfl rfl (Nat.le_of_ble_eq_true rfl) dX11_seat_89 (fun H locs hW hS => ?_)
          clear hq
          refine lv_iload hx hb dX11_seat_92 (lv_at hl 0 rfl) ?_
          refine lv_if_ge (tgt := 103) hx hb dX11_seat_94 (by decide) (fun hc => ?_) (fun hc => ?_)
          · have h := z_t h hc
            clear hc
            refine lv_iload hx hb dX11_seat_103 (lv_at hl 0 rfl) ?_
            refine lv_istore (lv' := [(6, .int r10), (0, .ref (b + 0)), (1, .int x1), (2, .int x2), (3, .int x3), (4, .int x4), (5, .int x5)]) hx hb dX11_seat_105 hl (by decide) rfl (fun ls hl => ?_)
            refine lv_iload hx hb dX11_seat_107 (lv_at hl 0 rfl) ?_
            refine lv_iload hx hb dX11_seat_109 (lv_at hl 5 rfl) ?_
            refine lv_icmp_lt (tgt := 117) hx hb dX11_seat_111 (by decide) (fun hc => ?_) (fun hc => ?_)
            · have h := z_t h hc
              clear hc
              refine lv_iload hx hb dX11_seat_117 (lv_at hl 0 rfl) ?_
              refine lv_istore (lv' := [(4, .int r10), (6, .int r10), (0, .ref (b + 0)), (1, .int x1), (2, .int x2), (3, .int x3), (5, .int x5)]) hx hb dX11_seat_119 hl (by decide) rfl (fun ls hl => ?_)
              refine lv_iload hx hb dX11_seat_121 (lv_at hl 6 rfl) ?_
              refine lv_istore_n (lv' := [(3, .int x5), (4, .int r10), (6, .int r10), (0, .ref (b + 0)), (1, .int x1), (2, .int x2), (5, .int x5)]) hx hb dX11_seat_123 rfl hl (by decide) rfl (fun ls hl => ?_)
              refine lv_iinc (v := x5 + (1 : Int32)) (lv' := [(5, .int (x5 + (1 : Int32))), (3, .int x5), (4, .int r10), (6, .int r10), (0, .ref (b + 0)), (1, .int x1), (2, .int x2)]) hx hb dX11_seat_124 hl (k := 6) rfl rfl (by decide) rfl (fun ls hl => ?_)
              refine lv_goto (tgt := 43) hx hb dX11_seat_127 (by decide) ?_
              exact ih _ _ _ _ _ _ _ _ _ h hW hS (lv_sub hl [4, 5, 6, 1, 2, 0] rfl)
            · have h := z_f h hc
              clear hc
              refine lv_goto (tgt := 124) hx hb dX11_seat_114 (by decide) ?_
              refine lv_iinc (v := x5 + (1 : Int32)) (lv' := [(5, .int (x5 + (1 : Int32))), (6, .int r10), (0, .ref (b + 0)), (1, .int x1), (2, .int x2), (3, .int x3), (4, .int x4)]) hx hb dX11_seat_124 hl (k := 6) rfl rfl (by decide) rfl (fun ls hl => ?_)
              refine lv_goto (tgt := 43) hx hb dX11_seat_127 (by decide) ?_
              exact ih _ _ _ _ _ _ _ _ _ h hW hS (lv_sub hl [2, 3, 4, 5, 6, 0] rfl)
          · have h := z_f h hc
            clear hc
            refine lv_iload hx hb dX11_seat_97 (lv_at hl 0 rfl) ?_
            refine lv_ineg hx hb dX11_seat_99 ?_
            refine lv_goto (tgt := 105) hx hb dX11_seat_100 (by decide) ?_
            refine lv_topi (fun z12 e1 => ?_)
            have h := z_ly h e1
            clear e1
            refine lv_istore (lv' := [(6, .int z12), (0, .ref (b + 0)), (1, .int x1), (2, .int x2), (3, .int x3), (4, .int x4), (5, .int x5)]) hx hb dX11_seat_105 hl (by decide) rfl (fun ls hl => ?_)
            refine lv_iload hx hb dX11_seat_107 (lv_at hl 0 rfl) ?_
            refine lv_iload hx hb dX11_seat_109 (lv_at hl 5 rfl) ?_
            refine lv_icmp_lt (tgt := 117) hx hb dX11_seat_111 (by decide) (fun hc => ?_) (fun hc => ?_)
            · have h := z_t h hc
              clear hc
              refine lv_iload hx hb dX11_seat_117 (lv_at hl 0 rfl) ?_
              refine lv_istore (lv' := [(4, .int z12), (6, .int z12), (0, .ref (b + 0)), (1, .int x1), (2, .int x2), (3, .int x3), (5, .int x5)]) hx hb dX11_seat_119 hl (by decide) rfl (fun ls hl => ?_)
              refine lv_iload hx hb dX11_seat_121 (lv_at hl 6 rfl) ?_
              refine lv_istore_n (lv' := [(3, .int x5), (4, .int z12), (6, .int z12), (0, .ref (b + 0)), (1, .int x1), (2, .int x2), (5, .int x5)]) hx hb dX11_seat_123 rfl hl (by decide) rfl (fun ls hl => ?_)
              refine lv_iinc (v := x5 + (1 : Int32)) (lv' := [(5, .int (x5 + (1 : Int32))), (3, .int x5), (4, .int z12), (6, .int z12), (0, .ref (b + 0)), (1, .int x1), (2, .int x2)]) hx hb dX11_seat_124 hl (k := 6) rfl rfl (by decide) rfl (fun ls hl => ?_)
              refine lv_goto (tgt := 43) hx hb dX11_seat_127 (by decide) ?_
              exact ih _ _ _ _ _ _ _ _ _ h hW hS (lv_sub hl [4, 5, 6, 1, 2, 0] rfl)
            · have h := z_f h hc
              clear hc
              refine lv_goto (tgt := 124) hx hb dX11_seat_114 (by decide) ?_
              refine lv_iinc (v := x5 + (1 : Int32)) (lv' := [(5, .int (x5 + (1 : Int32))), (6, .int z12), (0, .ref (b + 0)), (1, .int x1), (2, .int x2), (3, .int x3), (4, .int x4)]) hx hb dX11_seat_124 hl (k := 6) rfl rfl (by decide) rfl (fun ls hl => ?_)
              refine lv_goto (tgt := 43) hx hb dX11_seat_127 (by decide) ?_
              exact ih _ _ _ _ _ _ _ _ _ h hW hS (lv_sub hl [2, 3, 4, 5, 6, 0] rfl)
        · have h := z_ff h hc
          clear hc
          refine lv_goto (tgt := 124) hx hb dX11_seat_65 (by decide) ?_
          refine lv_iinc (v := x5 + (1 : Int32)) (lv' := [(5, .int (x5 + (1 : Int32))), (0, .ref (b + 0)), (1, .int x1), (2, .int x2), (3, .int x3), (4, .int x4)]) hx hb dX11_seat_124 hl (k := 5) rfl rfl (by decide) rfl (fun ls hl => ?_)
          refine lv_goto (tgt := 43) hx hb dX11_seat_127 (by decide) ?_
          exact ih _ _ _ _ _ _ _ _ _ h hW hS (lv_sub hl [1, 2, 3, 4, 5, 0] rfl)
theorem f_X11_seat_e (a1 : Int32) (u : zU) : f_X11_seat a1 u = z_let (f_X11_isRider a1 u) (fun t1 => if t1 = true then (z_let (z_up u 0 0 (0 : Int32)) (fun u2 => if (u2 0 0) ≤ 0 then ((f_X11_of a1 (0 : Int32) u2).bind (fun r3 => f_X11_seat_43 5000 a1 r3 (-1 : Int32) (2000000000 : Int32) (0 : Int32) u2)) else (some ((0 : Int32), u2)))) else (z_let (z_up u 0 0 (1 : Int32)) (fun u13 => if (u13 0 0) ≤ 0 then ((f_X11_of a1 (0 : Int32) u13).bind (fun r14 => f_X11_seat_43 5000 a1 r14 (-1 : Int32) (2000000000 : Int32) (0 : Int32) u13)) else (some ((0 : Int32), u13))))) := rfl
set_option maxRecDepth 100000 in
set_option maxHeartbeats 4000000 in
theorem c_X11_seat (l : Launch) (D : zD) (A : Nat → Prop) (b : Nat) (a1 : Int32) (u : zU) {v : Int32} {u' : zU} (h : f_X11_seat a1 u = some (v, u')) : z_M l D A b gM yX11_seat cX11_seat 7 (some .int) 3 67 [.ref (b + 0), .int a1] u (some (.int v)) u' := by
  refine z_enter (by decide) (Nat.le_of_ble_eq_true rfl) ?_
  intro p e s m below meth c ls C0 hr hml hlk hW hS hl
  have hl : lv_has ls 7 [(0, .ref (b + 0)), (1, .int a1)] := hl
  have hx := C0.1
  have hb := C0.2.1
  rw [f_X11_seat_e] at h
  refine lv_aload_n hx hb dX11_seat_0 rfl (lv_at hl 0 rfl) ?_
  refine lv_aload_n hx hb dX11_seat_1 rfl (lv_at hl 0 rfl) ?_
  refine lv_iload_n hx hb dX11_seat_2 rfl (lv_at hl 1 rfl) ?_
  obtain ⟨t1, hq⟩ : ∃ y, f_X11_isRider a1 u = y := ⟨_, rfl⟩
  have h := z_lz h hq
  refine z_cvi (As := [.int a1]) C0 hml hl.1 hW hS (c_X11_isRider l D A b a1 u hq) mv_X11_291 rfl ⟨Nat.le_of_ble_eq_true rfl, Nat.le_of_ble_eq_true rfl⟩ rfl rfl (Nat.le_of_ble_eq_true rfl) dX11_seat_3 (fun H locs hW hS => ?_)
  clear hq
  refine z_ifneZ C0 (tgt := 13) dX11_seat_6 (by decide) (fun hc => ?_) (fun hc => ?_)
  · have h := z_t h hc
    clear hc
    refine lv_iconst (v := (0 : Int32)) hx hb dX11_seat_13 (by decide) ?_
    refine z_puti C0 hW hS fl_X11_42 rfl rfl rfl rfl dX11_seat_14 (fun H locs u2 e1 hW hS => ?_)
    have h := z_ly h e1
    clear e1
    refine lv_aload_n hx hb dX11_seat_17 rfl (lv_at hl 0 rfl) ?_
    refine z_geti C0 hW fl_X11_42 rfl rfl dX11_seat_18 ?_
    refine lv_if_le (tgt := 26) hx hb dX11_seat_21 (by decide) (fun hc => ?_) (fun hc => ?_)
    · have h := z_t h hc
      clear hc
      refine lv_aload_n hx hb dX11_seat_26 rfl (lv_at hl 0 rfl) ?_
      refine lv_iload_n hx hb dX11_seat_27 rfl (lv_at hl 1 rfl) ?_
      refine lv_iconst (v := (0 : Int32)) hx hb dX11_seat_28 (by decide) ?_
      obtain ⟨r3, hq, h⟩ := z_bd h
      refine z_cvi (As := [.int a1, .int (0 : Int32)]) C0 hml hl.1 hW hS (c_X11_of l D A b a1 (0 : Int32) u2 hq) mv_X11_49 rfl ⟨Nat.le_of_ble_eq_true rfl, Nat.le_of_ble_eq_true rfl⟩ rfl rfl (Nat.le_of_ble_eq_true rfl) dX11_seat_29 (fun H locs hW hS => ?_)
      clear hq
      refine lv_istore_n (lv' := [(2, .int r3), (0, .ref (b + 0)), (1, .int a1)]) hx hb dX11_seat_32 rfl hl (by decide) rfl (fun ls hl => ?_)
      refine lv_iconst (v := (-1 : Int32)) hx hb dX11_seat_33 (by decide) ?_
      refine lv_istore_n (lv' := [(3, .int (-1 : Int32)), (2, .int r3), (0, .ref (b + 0)), (1, .int a1)]) hx hb dX11_seat_34 rfl hl (by decide) rfl (fun ls hl => ?_)
      refine lv_ldcw (own := yX11_seat.cls) (v := (2000000000 : Int32)) hx hb C0.2.2.2.1 (C0.2.2.1 _ k_X11_330) dX11_seat_35 ?_
      refine lv_istore (lv' := [(4, .int (2000000000 : Int32)), (3, .int (-1 : Int32)), (2, .int r3), (0, .ref (b + 0)), (1, .int a1)]) hx hb dX11_seat_38 hl (by decide) rfl (fun ls hl => ?_)
      refine lv_iconst (v := (0 : Int32)) hx hb dX11_seat_40 (by decide) ?_
      refine lv_istore (lv' := [(5, .int (0 : Int32)), (4, .int (2000000000 : Int32)), (3, .int (-1 : Int32)), (2, .int r3), (0, .ref (b + 0)), (1, .int a1)]) hx hb dX11_seat_41 hl (by decide) rfl (fun ls hl => ?_)
      exact l_X11_seat_43 C0 hr hml hlk 5000 _ _ _ _ _ _ _ _ _ h hW hS (lv_sub hl [4, 5, 3, 2, 1, 0] rfl)
    · have h := z_f h hc
      clear hc
      refine lv_iconst (v := (0 : Int32)) hx hb dX11_seat_24 (by decide) ?_
      cases h
      exact z_iret C0 hr hlk hW hS dX11_seat_25
  · have h := z_ff h hc
    clear hc
    refine lv_iconst (v := (1 : Int32)) hx hb dX11_seat_9 (by decide) ?_
    refine lv_goto (tgt := 14) hx hb dX11_seat_10 (by decide) ?_
    refine z_puti C0 hW hS fl_X11_42 rfl rfl rfl rfl dX11_seat_14 (fun H locs u13 e1 hW hS => ?_)
    have h := z_ly h e1
    clear e1
    refine lv_aload_n hx hb dX11_seat_17 rfl (lv_at hl 0 rfl) ?_
    refine z_geti C0 hW fl_X11_42 rfl rfl dX11_seat_18 ?_
    refine lv_if_le (tgt := 26) hx hb dX11_seat_21 (by decide) (fun hc => ?_) (fun hc => ?_)
    · have h := z_t h hc
      clear hc
      refine lv_aload_n hx hb dX11_seat_26 rfl (lv_at hl 0 rfl) ?_
      refine lv_iload_n hx hb dX11_seat_27 rfl (lv_at hl 1 rfl) ?_
      refine lv_iconst (v := (0 : Int32)) hx hb dX11_seat_28 (by decide) ?_
      obtain ⟨r14, hq, h⟩ := z_bd h
      refine z_cvi (As := [.int a1, .int (0 : Int32)]) C0 hml hl.1 hW hS (c_X11_of l D A b a1 (0 : Int32) u13 hq) mv_X11_49 rfl ⟨Nat.le_of_ble_eq_true rfl, Nat.le_of_ble_eq_true rfl⟩ rfl rfl (Nat.le_of_ble_eq_true rfl) dX11_seat_29 (fun H locs hW hS => ?_)
      clear hq
      refine lv_istore_n (lv' := [(2, .int r14), (0, .ref (b + 0)), (1, .int a1)]) hx hb dX11_seat_32 rfl hl (by decide) rfl (fun ls hl => ?_)
      refine lv_iconst (v := (-1 : Int32)) hx hb dX11_seat_33 (by decide) ?_
      refine lv_istore_n (lv' := [(3, .int (-1 : Int32)), (2, .int r14), (0, .ref (b + 0)), (1, .int a1)]) hx hb dX11_seat_34 rfl hl (by decide) rfl (fun ls hl => ?_)
      refine lv_ldcw (own := yX11_seat.cls) (v := (2000000000 : Int32)) hx hb C0.2.2.2.1 (C0.2.2.1 _ k_X11_330) dX11_seat_35 ?_
      refine lv_istore (lv' := [(4, .int (2000000000 : Int32)), (3, .int (-1 : Int32)), (2, .int r14), (0, .ref (b + 0)), (1, .int a1)]) hx hb dX11_seat_38 hl (by decide) rfl (fun ls hl => ?_)
      refine lv_iconst (v := (0 : Int32)) hx hb dX11_seat_40 (by decide) ?_
      refine lv_istore (lv' := [(5, .int (0 : Int32)), (4, .int (2000000000 : Int32)), (3, .int (-1 : Int32)), (2, .int r14), (0, .ref (b + 0)), (1, .int a1)]) hx hb dX11_seat_41 hl (by decide) rfl (fun ls hl => ?_)
      exact l_X11_seat_43 C0 hr hml hlk 5000 _ _ _ _ _ _ _ _ _ h hW hS (lv_sub hl [4, 5, 3, 2, 1, 0] rfl)
    · have h := z_f h hc
      clear hc
      refine lv_iconst (v := (0 : Int32)) hx hb dX11_seat_24 (by decide) ?_
      cases h
      exact z_iret C0 hr hlk hW hS dX11_seat_25
def f_X11_shifts_14 : Nat → Int32 → Int32 → Int32 → zU → Option (Int32 × zU)
  | 0, _, _, _, _ => none
  | n + 1, x1, x2, x3, u =>
    if (256 : Int32) ≤ x3 then (some (x2, u)) else (if (x3 &&& (x1 ^^^ (-1 : Int32))) = 0 then ((f_X11_leanBy (x1 &&& (x3 ^^^ (-1 : Int32))) u).bind (fun r3 => if r3 = 0 then (if x2 = (-1 : Int32) then (f_X11_shifts_14 n x1 x3 (x3 + (1 : Int32)) u) else ((f_X11_bits x3 u).bind (fun r4 => (f_X11_bits x2 u).bind (fun r5 => if r5 ≤ r4 then (f_X11_shifts_14 n x1 x2 (x3 + (1 : Int32)) u) else (f_X11_shifts_14 n x1 x3 (x3 + (1 : Int32)) u))))) else (f_X11_shifts_14 n x1 x2 (x3 + (1 : Int32)) u))) else (f_X11_shifts_14 n x1 x2 (x3 + (1 : Int32)) u))
theorem f_X11_shifts_14_s (n : Nat) (x1 : Int32) (x2 : Int32) (x3 : Int32) (u : zU) : f_X11_shifts_14 (n + 1) x1 x2 x3 u = if (256 : Int32) ≤ x3 then (some (x2, u)) else (if (x3 &&& (x1 ^^^ (-1 : Int32))) = 0 then ((f_X11_leanBy (x1 &&& (x3 ^^^ (-1 : Int32))) u).bind (fun r3 => if r3 = 0 then (if x2 = (-1 : Int32) then (f_X11_shifts_14 n x1 x3 (x3 + (1 : Int32)) u) else ((f_X11_bits x3 u).bind (fun r4 => (f_X11_bits x2 u).bind (fun r5 => if r5 ≤ r4 then (f_X11_shifts_14 n x1 x2 (x3 + (1 : Int32)) u) else (f_X11_shifts_14 n x1 x3 (x3 + (1 : Int32)) u))))) else (f_X11_shifts_14 n x1 x2 (x3 + (1 : Int32)) u))) else (f_X11_shifts_14 n x1 x2 (x3 + (1 : Int32)) u)) := rfl
def f_X11_shifts  (u : zU) : Option (Int32 × zU) :=
  z_let (z_up u 0 0 (0 : Int32)) (fun u1 => (f_X11_seated u1).bind (fun r2 => f_X11_shifts_14 5000 r2 (-1 : Int32) (0 : Int32) u1))
set_option maxRecDepth 100000 in
set_option maxHeartbeats 4000000 in
theorem l_X11_shifts_14 {l : Launch} {D : zD} {A : Nat → Prop} {b : Nat} {p : Program} {e : Env} {s : State} {m : MethodId} {args : Array Value} {below : List Frame} {meth : Method} {c : Code} {v : Int32} {u' : zU} (C0 : z_C p c cX11_shifts s m args yX11_shifts.cls D) (hr : meth.sig.returnType = (some .int)) (hml : c.maxLocals = 4) (hlk : meth.locks = false) : ∀ (n : Nat) (x1 : Int32) (x2 : Int32) (x3 : Int32) (u : zU) (H : Heap) (locs : List Loc) (ls : Array Slot), f_X11_shifts_14 n x1 x2 x3 u = some (v, u') → z_W D A b gM u H → va_S A s.heap H locs → lv_has ls 4 [(0, .ref (b + 0)), (1, .int x1), (2, .int x2), (3, .int x3)] → W p l e { frames := 3, cells := 0, slots := 0, locals := 67 } s m args below meth c H locs 0 0 (z_End D A b gM below args s (some (.int v)) u') (F0 m 14 ls []) := by
  have hx := C0.1
  have hb := C0.2.1
  intro n
  induction n with
  | zero => intro x1 x2 x3 u H locs ls h hW hS hl; cases h
  | succ n ih =>
    intro x1 x2 x3 u H locs ls h hW hS hl
    rw [f_X11_shifts_14_s] at h
    refine lv_iload_n hx hb dX11_shifts_14 rfl (lv_at hl 3 rfl) ?_
    refine lv_sipush (v := (256 : Int32)) hx hb dX11_shifts_15 (by decide) ?_
    refine lv_icmp_ge (tgt := 65) hx hb dX11_shifts_18 (by decide) (fun hc => ?_) (fun hc => ?_)
    · have h := z_t h hc
      clear hc
      refine lv_iload_n hx hb dX11_shifts_65 rfl (lv_at hl 2 rfl) ?_
      cases h
      exact z_iret C0 hr hlk hW hS dX11_shifts_66
    · have h := z_f h hc
      clear hc
      refine lv_iload_n hx hb dX11_shifts_21 rfl (lv_at hl 3 rfl) ?_
      refine lv_iload_n hx hb dX11_shifts_22 rfl (lv_at hl 1 rfl) ?_
      refine lv_iconst (v := (-1 : Int32)) hx hb dX11_shifts_23 (by decide) ?_
      refine lv_ixor hx hb dX11_shifts_24 ?_
      refine lv_iand hx hb dX11_shifts_25 ?_
      refine lv_if_ne (tgt := 59) hx hb dX11_shifts_26 (by decide) (fun hc => ?_) (fun hc => ?_)
      · have h := z_f h hc
        clear hc
        refine lv_iinc (v := x3 + (1 : Int32)) (lv' := [(3, .int (x3 + (1 : Int32))), (0, .ref (b + 0)), (1, .int x1), (2, .int x2)]) hx hb dX11_shifts_59 hl (k := 3) rfl rfl (by decide) rfl (fun ls hl => ?_)
        refine lv_goto (tgt := 14) hx hb dX11_shifts_62 (by decide) ?_
        exact ih _ _ _ _ _ _ _ h hW hS (lv_sub hl [1, 2, 3, 0] rfl)
      · have h := z_t h hc
        clear hc
        refine lv_aload_n hx hb dX11_shifts_29 rfl (lv_at hl 0 rfl) ?_
        refine lv_iload_n hx hb dX11_shifts_30 rfl (lv_at hl 1 rfl) ?_
        refine lv_iload_n hx hb dX11_shifts_31 rfl (lv_at hl 3 rfl) ?_
        refine lv_iconst (v := (-1 : Int32)) hx hb dX11_shifts_32 (by decide) ?_
        refine lv_ixor hx hb dX11_shifts_33 ?_
        refine lv_iand hx hb dX11_shifts_34 ?_
        obtain ⟨r3, hq, h⟩ := z_bd h
        refine z_cvi (As := [.int (x1 &&& (x3 ^^^ (-1 : Int32)))]) C0 hml hl.1 hW hS (c_X11_leanBy l D A b (x1 &&& (x3 ^^^ (-1 : Int32))) u hq) mv_X11_327 rfl ⟨Nat.le_of_ble_eq_true rfl, Nat.le_of_ble_eq_true rfl⟩ rfl rfl (Nat.le_of_ble_eq_true rfl) dX11_shifts_35 (fun H locs hW hS => ?_)
        clear hq
        refine lv_if_ne (tgt := 59) hx hb dX11_shifts_38 (by decide) (fun hc => ?_) (fun hc => ?_)
        · have h := z_f h hc
          clear hc
          refine lv_iinc (v := x3 + (1 : Int32)) (lv' := [(3, .int (x3 + (1 : Int32))), (0, .ref (b + 0)), (1, .int x1), (2, .int x2)]) hx hb dX11_shifts_59 hl (k := 3) rfl rfl (by decide) rfl (fun ls hl => ?_)
          refine lv_goto (tgt := 14) hx hb dX11_shifts_62 (by decide) ?_
          exact ih _ _ _ _ _ _ _ h hW hS (lv_sub hl [1, 2, 3, 0] rfl)
        · have h := z_t h hc
          clear hc
          refine lv_iload_n hx hb dX11_shifts_41 rfl (lv_at hl 2 rfl) ?_
          refine lv_iconst (v := (-1 : Int32)) hx hb dX11_shifts_42 (by decide) ?_
          refine lv_icmp_eq (tgt := 57) hx hb dX11_shifts_43 (by decide) (fun hc => ?_) (fun hc => ?_)
          · have h := z_t h hc
            clear hc
            refine lv_iload_n hx hb dX11_shifts_57 rfl (lv_at hl 3 rfl) ?_
            refine lv_istore_n (lv' := [(2, .int x3), (0, .ref (b + 0)), (1, .int x1), (3, .int x3)]) hx hb dX11_shifts_58 rfl hl (by decide) rfl (fun ls hl => ?_)
            refine lv_iinc (v := x3 + (1 : Int32)) (lv' := [(3, .int (x3 + (1 : Int32))), (2, .int x3), (0, .ref (b + 0)), (1, .int x1)]) hx hb dX11_shifts_59 hl (k := 3) rfl rfl (by decide) rfl (fun ls hl => ?_)
            refine lv_goto (tgt := 14) hx hb dX11_shifts_62 (by decide) ?_
            exact ih _ _ _ _ _ _ _ h hW hS (lv_sub hl [2, 3, 1, 0] rfl)
          · have h := z_f h hc
            clear hc
            refine lv_iload_n hx hb dX11_shifts_46 rfl (lv_at hl 3 rfl) ?_
            obtain ⟨r4, hq, h⟩ := z_bd h
            refine z_csi (As := [.int x3]) C0 hml hl.1 hW hS (c_X11_bits l D A b x3 u hq) ms_X11_57 ⟨Nat.le_of_ble_eq_true rfl, Nat.le_of_ble_eq_true rfl⟩ rfl rfl (Nat.le_of_ble_eq_true rfl) dX11_shifts_47 (fun H locs hW hS => ?_)
            clear hq
            refine lv_iload_n hx hb dX11_shifts_50 rfl (lv_at hl 2 rfl) ?_
            obtain ⟨r5, hq, h⟩ := z_bd h
            refine z_csi (As := [.int x2]) C0 hml hl.1 hW hS (c_X11_bits l D A b x2 u hq) ms_X11_57 ⟨Nat.le_of_ble_eq_true rfl, Nat.le_of_ble_eq_true rfl⟩ rfl rfl (Nat.le_of_ble_eq_true rfl) dX11_shifts_51 (fun H locs hW hS => ?_)
            clear hq
            refine lv_icmp_ge (tgt := 59) hx hb dX11_shifts_54 (by decide) (fun hc => ?_) (fun hc => ?_)
            · have h := z_t h hc
              clear hc
              refine lv_iinc (v := x3 + (1 : Int32)) (lv' := [(3, .int (x3 + (1 : Int32))), (0, .ref (b + 0)), (1, .int x1), (2, .int x2)]) hx hb dX11_shifts_59 hl (k := 3) rfl rfl (by decide) rfl (fun ls hl => ?_)
              refine lv_goto (tgt := 14) hx hb dX11_shifts_62 (by decide) ?_
              exact ih _ _ _ _ _ _ _ h hW hS (lv_sub hl [1, 2, 3, 0] rfl)
            · have h := z_f h hc
              clear hc
              refine lv_iload_n hx hb dX11_shifts_57 rfl (lv_at hl 3 rfl) ?_
              refine lv_istore_n (lv' := [(2, .int x3), (0, .ref (b + 0)), (1, .int x1), (3, .int x3)]) hx hb dX11_shifts_58 rfl hl (by decide) rfl (fun ls hl => ?_)
              refine lv_iinc (v := x3 + (1 : Int32)) (lv' := [(3, .int (x3 + (1 : Int32))), (2, .int x3), (0, .ref (b + 0)), (1, .int x1)]) hx hb dX11_shifts_59 hl (k := 3) rfl rfl (by decide) rfl (fun ls hl => ?_)
              refine lv_goto (tgt := 14) hx hb dX11_shifts_62 (by decide) ?_
              exact ih _ _ _ _ _ _ _ h hW hS (lv_sub hl [2, 3, 1, 0] rfl)
theorem f_X11_shifts_e  (u : zU) : f_X11_shifts  u = z_let (z_up u 0 0 (0 : Int32)) (fun u1 => (f_X11_seated u1).bind (fun r2 => f_X11_shifts_14 5000 r2 (-1 : Int32) (0 : Int32) u1)) := rfl
set_option maxRecDepth 100000 in
set_option maxHeartbeats 4000000 in
theorem c_X11_shifts (l : Launch) (D : zD) (A : Nat → Prop) (b : Nat)  (u : zU) {v : Int32} {u' : zU} (h : f_X11_shifts  u = some (v, u')) : z_M l D A b gM yX11_shifts cX11_shifts 4 (some .int) 3 67 [.ref (b + 0)] u (some (.int v)) u' := by
  refine z_enter (by decide) (Nat.le_of_ble_eq_true rfl) ?_
  intro p e s m below meth c ls C0 hr hml hlk hW hS hl
  have hl : lv_has ls 4 [(0, .ref (b + 0))] := hl
  have hx := C0.1
  have hb := C0.2.1
  rw [f_X11_shifts_e] at h
  refine lv_aload_n hx hb dX11_shifts_0 rfl (lv_at hl 0 rfl) ?_
  refine lv_iconst (v := (0 : Int32)) hx hb dX11_shifts_1 (by decide) ?_
  refine z_puti C0 hW hS fl_X11_42 rfl rfl rfl rfl dX11_shifts_2 (fun H locs u1 e1 hW hS => ?_)
  have h := z_ly h e1
  clear e1
  refine lv_aload_n hx hb dX11_shifts_5 rfl (lv_at hl 0 rfl) ?_
  obtain ⟨r2, hq, h⟩ := z_bd h
  refine z_cvi (As := []) C0 hml hl.1 hW hS (c_X11_seated l D A b  u1 hq) mv_X11_306 rfl ⟨Nat.le_of_ble_eq_true rfl, Nat.le_of_ble_eq_true rfl⟩ rfl rfl (Nat.le_of_ble_eq_true rfl) dX11_shifts_6 (fun H locs hW hS => ?_)
  clear hq
  refine lv_istore_n (lv' := [(1, .int r2), (0, .ref (b + 0))]) hx hb dX11_shifts_9 rfl hl (by decide) rfl (fun ls hl => ?_)
  refine lv_iconst (v := (-1 : Int32)) hx hb dX11_shifts_10 (by decide) ?_
  refine lv_istore_n (lv' := [(2, .int (-1 : Int32)), (1, .int r2), (0, .ref (b + 0))]) hx hb dX11_shifts_11 rfl hl (by decide) rfl (fun ls hl => ?_)
  refine lv_iconst (v := (0 : Int32)) hx hb dX11_shifts_12 (by decide) ?_
  refine lv_istore_n (lv' := [(3, .int (0 : Int32)), (2, .int (-1 : Int32)), (1, .int r2), (0, .ref (b + 0))]) hx hb dX11_shifts_13 rfl hl (by decide) rfl (fun ls hl => ?_)
  exact l_X11_shifts_14 C0 hr hml hlk 5000 _ _ _ _ _ _ _ h hW hS (lv_sub hl [3, 2, 1, 0] rfl)
def f_X11_majority_18 : Nat → Int32 → Int32 → zU → Option (Int32 × zU)
  | 0, _, _, _ => none
  | n + 1, x1, x2, u =>
    if (16 : Int32) ≤ x2 then (some (x1, u)) else ((f_X11_isMajor x2 u).bind (fun t3 => if t3 = true then (if x1 = (-1 : Int32) then (f_X11_majority_18 n x2 (x2 + (1 : Int32)) u) else ((f_X11_bits x2 u).bind (fun r4 => (f_X11_bits x1 u).bind (fun r5 => if r5 ≤ r4 then (f_X11_majority_18 n x1 (x2 + (1 : Int32)) u) else (f_X11_majority_18 n x2 (x2 + (1 : Int32)) u))))) else (f_X11_majority_18 n x1 (x2 + (1 : Int32)) u)))
theorem f_X11_majority_18_s (n : Nat) (x1 : Int32) (x2 : Int32) (u : zU) : f_X11_majority_18 (n + 1) x1 x2 u = if (16 : Int32) ≤ x2 then (some (x1, u)) else ((f_X11_isMajor x2 u).bind (fun t3 => if t3 = true then (if x1 = (-1 : Int32) then (f_X11_majority_18 n x2 (x2 + (1 : Int32)) u) else ((f_X11_bits x2 u).bind (fun r4 => (f_X11_bits x1 u).bind (fun r5 => if r5 ≤ r4 then (f_X11_majority_18 n x1 (x2 + (1 : Int32)) u) else (f_X11_majority_18 n x2 (x2 + (1 : Int32)) u))))) else (f_X11_majority_18 n x1 (x2 + (1 : Int32)) u))) := rfl
def f_X11_majority  (u : zU) : Option (Int32 × zU) :=
  z_let (z_up u 0 0 (0 : Int32)) (fun u1 => (f_X11_seated u1).bind (fun r2 => if r2 = 0 then (some ((0 : Int32), u1)) else (f_X11_majority_18 5000 (-1 : Int32) (0 : Int32) u1)))
set_option maxRecDepth 100000 in
set_option maxHeartbeats 4000000 in
theorem l_X11_majority_18 {l : Launch} {D : zD} {A : Nat → Prop} {b : Nat} {p : Program} {e : Env} {s : State} {m : MethodId} {args : Array Value} {below : List Frame} {meth : Method} {c : Code} {v : Int32} {u' : zU} (C0 : z_C p c cX11_majority s m args yX11_majority.cls D) (hr : meth.sig.returnType = (some .int)) (hml : c.maxLocals = 3) (hlk : meth.locks = false) : ∀ (n : Nat) (x1 : Int32) (x2 : Int32) (u : zU) (H : Heap) (locs : List Loc) (ls : Array Slot), f_X11_majority_18 n x1 x2 u = some (v, u') → z_W D A b gM u H → va_S A s.heap H locs → lv_has ls 3 [(0, .ref (b + 0)), (1, .int x1), (2, .int x2)] → W p l e { frames := 4, cells := 0, slots := 0, locals := 88 } s m args below meth c H locs 0 0 (z_End D A b gM below args s (some (.int v)) u') (F0 m 18 ls []) := by
  have hx := C0.1
  have hb := C0.2.1
  intro n
  induction n with
  | zero => intro x1 x2 u H locs ls h hW hS hl; cases h
  | succ n ih =>
    intro x1 x2 u H locs ls h hW hS hl
    rw [f_X11_majority_18_s] at h
    refine lv_iload_n hx hb dX11_majority_18 rfl (lv_at hl 2 rfl) ?_
    refine lv_bipush (v := (16 : Int32)) hx hb dX11_majority_19 (by decide) ?_
    refine lv_icmp_ge (tgt := 56) hx hb dX11_majority_21 (by decide) (fun hc => ?_) (fun hc => ?_)
    · have h := z_t h hc
      clear hc
      refine lv_iload_n hx hb dX11_majority_56 rfl (lv_at hl 1 rfl) ?_
      cases h
      exact z_iret C0 hr hlk hW hS dX11_majority_57
    · have h := z_f h hc
      clear hc
      refine lv_aload_n hx hb dX11_majority_24 rfl (lv_at hl 0 rfl) ?_
      refine lv_iload_n hx hb dX11_majority_25 rfl (lv_at hl 2 rfl) ?_
      obtain ⟨t3, hq, h⟩ := z_bd h
      refine z_cvi (As := [.int x2]) C0 hml hl.1 hW hS (c_X11_isMajor l D A b x2 u hq) mv_X11_309 rfl ⟨Nat.le_of_ble_eq_true rfl, Nat.le_of_ble_eq_true rfl⟩ rfl rfl (Nat.le_of_ble_eq_true rfl) dX11_majority_26 (fun H locs hW hS => ?_)
      clear hq
      refine z_ifeqZ C0 (tgt := 50) dX11_majority_29 (by decide) (fun hc => ?_) (fun hc => ?_)
      · have h := z_ff h hc
        clear hc
        refine lv_iinc (v := x2 + (1 : Int32)) (lv' := [(2, .int (x2 + (1 : Int32))), (0, .ref (b + 0)), (1, .int x1)]) hx hb dX11_majority_50 hl (k := 2) rfl rfl (by decide) rfl (fun ls hl => ?_)
        refine lv_goto (tgt := 18) hx hb dX11_majority_53 (by decide) ?_
        exact ih _ _ _ _ _ _ h hW hS (lv_sub hl [1, 2, 0] rfl)
      · have h := z_t h hc
        clear hc
        refine lv_iload_n hx hb dX11_majority_32 rfl (lv_at hl 1 rfl) ?_
        refine lv_iconst (v := (-1 : Int32)) hx hb dX11_majority_33 (by decide) ?_
        refine lv_icmp_eq (tgt := 48) hx hb dX11_majority_34 (by decide) (fun hc => ?_) (fun hc => ?_)
        · have h := z_t h hc
          clear hc
          refine lv_iload_n hx hb dX11_majority_48 rfl (lv_at hl 2 rfl) ?_
          refine lv_istore_n (lv' := [(1, .int x2), (0, .ref (b + 0)), (2, .int x2)]) hx hb dX11_majority_49 rfl hl (by decide) rfl (fun ls hl => ?_)
          refine lv_iinc (v := x2 + (1 : Int32)) (lv' := [(2, .int (x2 + (1 : Int32))), (1, .int x2), (0, .ref (b + 0))]) hx hb dX11_majority_50 hl (k := 2) rfl rfl (by decide) rfl (fun ls hl => ?_)
          refine lv_goto (tgt := 18) hx hb dX11_majority_53 (by decide) ?_
          exact ih _ _ _ _ _ _ h hW hS (lv_sub hl [2, 1, 0] rfl)
        · have h := z_f h hc
          clear hc
          refine lv_iload_n hx hb dX11_majority_37 rfl (lv_at hl 2 rfl) ?_
          obtain ⟨r4, hq, h⟩ := z_bd h
          refine z_csi (As := [.int x2]) C0 hml hl.1 hW hS (c_X11_bits l D A b x2 u hq) ms_X11_57 ⟨Nat.le_of_ble_eq_true rfl, Nat.le_of_ble_eq_true rfl⟩ rfl rfl (Nat.le_of_ble_eq_true rfl) dX11_majority_38 (fun H locs hW hS => ?_)
          clear hq
          refine lv_iload_n hx hb dX11_majority_41 rfl (lv_at hl 1 rfl) ?_
          obtain ⟨r5, hq, h⟩ := z_bd h
          refine z_csi (As := [.int x1]) C0 hml hl.1 hW hS (c_X11_bits l D A b x1 u hq) ms_X11_57 ⟨Nat.le_of_ble_eq_true rfl, Nat.le_of_ble_eq_true rfl⟩ rfl rfl (Nat.le_of_ble_eq_true rfl) dX11_majority_42 (fun H locs hW hS => ?_)
          clear hq
          refine lv_icmp_ge (tgt := 50) hx hb dX11_majority_45 (by decide) (fun hc => ?_) (fun hc => ?_)
          · have h := z_t h hc
            clear hc
            refine lv_iinc (v := x2 + (1 : Int32)) (lv' := [(2, .int (x2 + (1 : Int32))), (0, .ref (b + 0)), (1, .int x1)]) hx hb dX11_majority_50 hl (k := 2) rfl rfl (by decide) rfl (fun ls hl => ?_)
            refine lv_goto (tgt := 18) hx hb dX11_majority_53 (by decide) ?_
            exact ih _ _ _ _ _ _ h hW hS (lv_sub hl [1, 2, 0] rfl)
          · have h := z_f h hc
            clear hc
            refine lv_iload_n hx hb dX11_majority_48 rfl (lv_at hl 2 rfl) ?_
            refine lv_istore_n (lv' := [(1, .int x2), (0, .ref (b + 0)), (2, .int x2)]) hx hb dX11_majority_49 rfl hl (by decide) rfl (fun ls hl => ?_)
            refine lv_iinc (v := x2 + (1 : Int32)) (lv' := [(2, .int (x2 + (1 : Int32))), (1, .int x2), (0, .ref (b + 0))]) hx hb dX11_majority_50 hl (k := 2) rfl rfl (by decide) rfl (fun ls hl => ?_)
            refine lv_goto (tgt := 18) hx hb dX11_majority_53 (by decide) ?_
            exact ih _ _ _ _ _ _ h hW hS (lv_sub hl [2, 1, 0] rfl)
theorem f_X11_majority_e  (u : zU) : f_X11_majority  u = z_let (z_up u 0 0 (0 : Int32)) (fun u1 => (f_X11_seated u1).bind (fun r2 => if r2 = 0 then (some ((0 : Int32), u1)) else (f_X11_majority_18 5000 (-1 : Int32) (0 : Int32) u1))) := rfl
set_option maxRecDepth 100000 in
set_option maxHeartbeats 4000000 in
theorem c_X11_majority (l : Launch) (D : zD) (A : Nat → Prop) (b : Nat)  (u : zU) {v : Int32} {u' : zU} (h : f_X11_majority  u = some (v, u')) : z_M l D A b gM yX11_majority cX11_majority 3 (some .int) 4 88 [.ref (b + 0)] u (some (.int v)) u' := by
  refine z_enter (by decide) (Nat.le_of_ble_eq_true rfl) ?_
  intro p e s m below meth c ls C0 hr hml hlk hW hS hl
  have hl : lv_has ls 3 [(0, .ref (b + 0))] := hl
  have hx := C0.1
  have hb := C0.2.1
  rw [f_X11_majority_e] at h
  refine lv_aload_n hx hb dX11_majority_0 rfl (lv_at hl 0 rfl) ?_
  refine lv_iconst (v := (0 : Int32)) hx hb dX11_majority_1 (by decide) ?_
  refine z_puti C0 hW hS fl_X11_42 rfl rfl rfl rfl dX11_majority_2 (fun H locs u1 e1 hW hS => ?_)
  have h := z_ly h e1
  clear e1
  refine lv_aload_n hx hb dX11_majority_5 rfl (lv_at hl 0 rfl) ?_
  obtain ⟨r2, hq, h⟩ := z_bd h
  refine z_cvi (As := []) C0 hml hl.1 hW hS (c_X11_seated l D A b  u1 hq) mv_X11_306 rfl ⟨Nat.le_of_ble_eq_true rfl, Nat.le_of_ble_eq_true rfl⟩ rfl rfl (Nat.le_of_ble_eq_true rfl) dX11_majority_6 (fun H locs hW hS => ?_)
  clear hq
  refine lv_if_ne (tgt := 14) hx hb dX11_majority_9 (by decide) (fun hc => ?_) (fun hc => ?_)
  · have h := z_f h hc
    clear hc
    refine lv_iconst (v := (-1 : Int32)) hx hb dX11_majority_14 (by decide) ?_
    refine lv_istore_n (lv' := [(1, .int (-1 : Int32)), (0, .ref (b + 0))]) hx hb dX11_majority_15 rfl hl (by decide) rfl (fun ls hl => ?_)
    refine lv_iconst (v := (0 : Int32)) hx hb dX11_majority_16 (by decide) ?_
    refine lv_istore_n (lv' := [(2, .int (0 : Int32)), (1, .int (-1 : Int32)), (0, .ref (b + 0))]) hx hb dX11_majority_17 rfl hl (by decide) rfl (fun ls hl => ?_)
    exact l_X11_majority_18 C0 hr hml hlk 5000 _ _ _ _ _ _ h hW hS (lv_sub hl [2, 1, 0] rfl)
  · have h := z_t h hc
    clear hc
    refine lv_iconst (v := (0 : Int32)) hx hb dX11_majority_12 (by decide) ?_
    cases h
    exact z_iret C0 hr hlk hW hS dX11_majority_13
def f_X11_affords_9 : Nat → Int32 → Int32 → zU → Option (Int32 × zU)
  | 0, _, _, _ => none
  | n + 1, x1, x2, u =>
    if (8 : Int32) ≤ x2 then (some (x1, u)) else (z_let (f_X11_costOf x2 u) (fun r2 => if (u 1 6) < r2 then (z_let (x1 ||| (0 : Int32)) (fun z3 => f_X11_affords_9 n z3 (x2 + (1 : Int32)) u)) else (z_let (x1 ||| ((1 : Int32) <<< (x2 &&& 31))) (fun z4 => f_X11_affords_9 n z4 (x2 + (1 : Int32)) u))))
theorem f_X11_affords_9_s (n : Nat) (x1 : Int32) (x2 : Int32) (u : zU) : f_X11_affords_9 (n + 1) x1 x2 u = if (8 : Int32) ≤ x2 then (some (x1, u)) else (z_let (f_X11_costOf x2 u) (fun r2 => if (u 1 6) < r2 then (z_let (x1 ||| (0 : Int32)) (fun z3 => f_X11_affords_9 n z3 (x2 + (1 : Int32)) u)) else (z_let (x1 ||| ((1 : Int32) <<< (x2 &&& 31))) (fun z4 => f_X11_affords_9 n z4 (x2 + (1 : Int32)) u)))) := rfl
def f_X11_affords  (u : zU) : Option (Int32 × zU) :=
  z_let (z_up u 0 0 (0 : Int32)) (fun u1 => f_X11_affords_9 5000 (0 : Int32) (0 : Int32) u1)
set_option maxRecDepth 100000 in
set_option maxHeartbeats 4000000 in
theorem l_X11_affords_9 {l : Launch} {D : zD} {A : Nat → Prop} {b : Nat} {p : Program} {e : Env} {s : State} {m : MethodId} {args : Array Value} {below : List Frame} {meth : Method} {c : Code} {v : Int32} {u' : zU} (C0 : z_C p c cX11_affords s m args yX11_affords.cls D) (hr : meth.sig.returnType = (some .int)) (hml : c.maxLocals = 3) (hlk : meth.locks = false) : ∀ (n : Nat) (x1 : Int32) (x2 : Int32) (u : zU) (H : Heap) (locs : List Loc) (ls : Array Slot), f_X11_affords_9 n x1 x2 u = some (v, u') → z_W D A b gM u H → va_S A s.heap H locs → lv_has ls 3 [(0, .ref (b + 0)), (1, .int x1), (2, .int x2)] → W p l e { frames := 2, cells := 0, slots := 0, locals := 42 } s m args below meth c H locs 0 0 (z_End D A b gM below args s (some (.int v)) u') (F0 m 9 ls []) := by
  have hx := C0.1
  have hb := C0.2.1
  intro n
  induction n with
  | zero => intro x1 x2 u H locs ls h hW hS hl; cases h
  | succ n ih =>
    intro x1 x2 u H locs ls h hW hS hl
    rw [f_X11_affords_9_s] at h
    refine lv_iload_n hx hb dX11_affords_9 rfl (lv_at hl 2 rfl) ?_
    refine lv_bipush (v := (8 : Int32)) hx hb dX11_affords_10 (by decide) ?_
    refine lv_icmp_ge (tgt := 46) hx hb dX11_affords_12 (by decide) (fun hc => ?_) (fun hc => ?_)
    · have h := z_t h hc
      clear hc
      refine lv_iload_n hx hb dX11_affords_46 rfl (lv_at hl 1 rfl) ?_
      cases h
      exact z_iret C0 hr hlk hW hS dX11_affords_47
    · have h := z_f h hc
      clear hc
      refine lv_iload_n hx hb dX11_affords_15 rfl (lv_at hl 1 rfl) ?_
      refine lv_aload_n hx hb dX11_affords_16 rfl (lv_at hl 0 rfl) ?_
      refine lv_iload_n hx hb dX11_affords_17 rfl (lv_at hl 2 rfl) ?_
      obtain ⟨r2, hq⟩ : ∃ y, f_X11_costOf x2 u = y := ⟨_, rfl⟩
      have h := z_lz h hq
      refine z_cvi (As := [.int x2]) C0 hml hl.1 hW hS (c_X11_costOf l D A b x2 u hq) mv_X11_300 rfl ⟨Nat.le_of_ble_eq_true rfl, Nat.le_of_ble_eq_true rfl⟩ rfl rfl (Nat.le_of_ble_eq_true rfl) dX11_affords_18 (fun H locs hW hS => ?_)
      clear hq
      refine lv_aload_n hx hb dX11_affords_21 rfl (lv_at hl 0 rfl) ?_
      refine z_getr (o := 1) C0 hW fl_X11_7 rfl rfl rfl dX11_affords_22 ?_
      refine lv_bipush (v := (6 : Int32)) hx hb dX11_affords_25 (by decide) ?_
      refine z_iald (k := 6) C0 hW rfl rfl (by decide) (by decide) dX11_affords_27 ?_
      refine lv_icmp_gt (tgt := 37) hx hb dX11_affords_28 (by decide) (fun hc => ?_) (fun hc => ?_)
      · have h := z_t h hc
        clear hc
        refine lv_iconst (v := (0 : Int32)) hx hb dX11_affords_37 (by decide) ?_
        refine lv_ior hx hb dX11_affords_38 ?_
        refine lv_topi (fun z3 e1 => ?_)
        have h := z_ly h e1
        clear e1
        refine lv_istore_n (lv' := [(1, .int z3), (0, .ref (b + 0)), (2, .int x2)]) hx hb dX11_affords_39 rfl hl (by decide) rfl (fun ls hl => ?_)
        refine lv_iinc (v := x2 + (1 : Int32)) (lv' := [(2, .int (x2 + (1 : Int32))), (1, .int z3), (0, .ref (b + 0))]) hx hb dX11_affords_40 hl (k := 2) rfl rfl (by decide) rfl (fun ls hl => ?_)
        refine lv_goto (tgt := 9) hx hb dX11_affords_43 (by decide) ?_
        exact ih _ _ _ _ _ _ h hW hS (lv_sub hl [2, 1, 0] rfl)
      · have h := z_f h hc
        clear hc
        refine lv_iconst (v := (1 : Int32)) hx hb dX11_affords_31 (by decide) ?_
        refine lv_iload_n hx hb dX11_affords_32 rfl (lv_at hl 2 rfl) ?_
        refine lv_ishl hx hb dX11_affords_33 ?_
        refine lv_goto (tgt := 38) hx hb dX11_affords_34 (by decide) ?_
        refine lv_ior hx hb dX11_affords_38 ?_
        refine lv_topi (fun z4 e1 => ?_)
        have h := z_ly h e1
        clear e1
        refine lv_istore_n (lv' := [(1, .int z4), (0, .ref (b + 0)), (2, .int x2)]) hx hb dX11_affords_39 rfl hl (by decide) rfl (fun ls hl => ?_)
        refine lv_iinc (v := x2 + (1 : Int32)) (lv' := [(2, .int (x2 + (1 : Int32))), (1, .int z4), (0, .ref (b + 0))]) hx hb dX11_affords_40 hl (k := 2) rfl rfl (by decide) rfl (fun ls hl => ?_)
        refine lv_goto (tgt := 9) hx hb dX11_affords_43 (by decide) ?_
        exact ih _ _ _ _ _ _ h hW hS (lv_sub hl [2, 1, 0] rfl)
theorem f_X11_affords_e  (u : zU) : f_X11_affords  u = z_let (z_up u 0 0 (0 : Int32)) (fun u1 => f_X11_affords_9 5000 (0 : Int32) (0 : Int32) u1) := rfl
set_option maxRecDepth 100000 in
set_option maxHeartbeats 4000000 in
theorem c_X11_affords (l : Launch) (D : zD) (A : Nat → Prop) (b : Nat)  (u : zU) {v : Int32} {u' : zU} (h : f_X11_affords  u = some (v, u')) : z_M l D A b gM yX11_affords cX11_affords 3 (some .int) 2 42 [.ref (b + 0)] u (some (.int v)) u' := by
  refine z_enter (by decide) (Nat.le_of_ble_eq_true rfl) ?_
  intro p e s m below meth c ls C0 hr hml hlk hW hS hl
  have hl : lv_has ls 3 [(0, .ref (b + 0))] := hl
  have hx := C0.1
  have hb := C0.2.1
  rw [f_X11_affords_e] at h
  refine lv_aload_n hx hb dX11_affords_0 rfl (lv_at hl 0 rfl) ?_
  refine lv_iconst (v := (0 : Int32)) hx hb dX11_affords_1 (by decide) ?_
  refine z_puti C0 hW hS fl_X11_42 rfl rfl rfl rfl dX11_affords_2 (fun H locs u1 e1 hW hS => ?_)
  have h := z_ly h e1
  clear e1
  refine lv_iconst (v := (0 : Int32)) hx hb dX11_affords_5 (by decide) ?_
  refine lv_istore_n (lv' := [(1, .int (0 : Int32)), (0, .ref (b + 0))]) hx hb dX11_affords_6 rfl hl (by decide) rfl (fun ls hl => ?_)
  refine lv_iconst (v := (0 : Int32)) hx hb dX11_affords_7 (by decide) ?_
  refine lv_istore_n (lv' := [(2, .int (0 : Int32)), (1, .int (0 : Int32)), (0, .ref (b + 0))]) hx hb dX11_affords_8 rfl hl (by decide) rfl (fun ls hl => ?_)
  exact l_X11_affords_9 C0 hr hml hlk 5000 _ _ _ _ _ _ h hW hS (lv_sub hl [2, 1, 0] rfl)
def f_X11_reign_9 : Nat → Int32 → Int32 → Int32 → zU → Option (Int32 × zU)
  | 0, _, _, _, _ => none
  | n + 1, x1, x2, x3, u =>
    if (u 1 3) ≤ x3 then (some (x2, u)) else ((f_X11_waits x3 u).bind (fun t3 => if t3 = true then (f_X11_reign_9 n x1 x2 (x3 + (1 : Int32)) u) else ((f_X11_of x3 (0 : Int32) u).bind (fun r4 => (f_X11_firstIn r4 u).bind (fun r5 => if r5 = x3 then ((f_X11_of x3 (0 : Int32) u).bind (fun r6 => z_let (f_X11_isOf x1 r6 u) (fun t7 => if t7 = true then (if x2 = (-1 : Int32) then (f_X11_reign_9 n x1 x3 (x3 + (1 : Int32)) u) else ((f_X11_of x3 (2 : Int32) u).bind (fun r8 => (f_X11_of x2 (2 : Int32) u).bind (fun r9 => if r8 ≤ r9 then (f_X11_reign_9 n x1 x2 (x3 + (1 : Int32)) u) else (f_X11_reign_9 n x1 x3 (x3 + (1 : Int32)) u))))) else (f_X11_reign_9 n x1 x2 (x3 + (1 : Int32)) u)))) else (f_X11_reign_9 n x1 x2 (x3 + (1 : Int32)) u))))))
theorem f_X11_reign_9_s (n : Nat) (x1 : Int32) (x2 : Int32) (x3 : Int32) (u : zU) : f_X11_reign_9 (n + 1) x1 x2 x3 u = if (u 1 3) ≤ x3 then (some (x2, u)) else ((f_X11_waits x3 u).bind (fun t3 => if t3 = true then (f_X11_reign_9 n x1 x2 (x3 + (1 : Int32)) u) else ((f_X11_of x3 (0 : Int32) u).bind (fun r4 => (f_X11_firstIn r4 u).bind (fun r5 => if r5 = x3 then ((f_X11_of x3 (0 : Int32) u).bind (fun r6 => z_let (f_X11_isOf x1 r6 u) (fun t7 => if t7 = true then (if x2 = (-1 : Int32) then (f_X11_reign_9 n x1 x3 (x3 + (1 : Int32)) u) else ((f_X11_of x3 (2 : Int32) u).bind (fun r8 => (f_X11_of x2 (2 : Int32) u).bind (fun r9 => if r8 ≤ r9 then (f_X11_reign_9 n x1 x2 (x3 + (1 : Int32)) u) else (f_X11_reign_9 n x1 x3 (x3 + (1 : Int32)) u))))) else (f_X11_reign_9 n x1 x2 (x3 + (1 : Int32)) u)))) else (f_X11_reign_9 n x1 x2 (x3 + (1 : Int32)) u)))))) := rfl
def f_X11_reign  (u : zU) : Option (Int32 × zU) :=
  z_b2 (f_X11_affords u) (fun r1 u2 => f_X11_reign_9 5000 r1 (-1 : Int32) (0 : Int32) u2)
set_option maxRecDepth 100000 in
set_option maxHeartbeats 4000000 in
theorem l_X11_reign_9 {l : Launch} {D : zD} {A : Nat → Prop} {b : Nat} {p : Program} {e : Env} {s : State} {m : MethodId} {args : Array Value} {below : List Frame} {meth : Method} {c : Code} {v : Int32} {u' : zU} (C0 : z_C p c cX11_reign s m args yX11_reign.cls D) (hr : meth.sig.returnType = (some .int)) (hml : c.maxLocals = 4) (hlk : meth.locks = false) : ∀ (n : Nat) (x1 : Int32) (x2 : Int32) (x3 : Int32) (u : zU) (H : Heap) (locs : List Loc) (ls : Array Slot), f_X11_reign_9 n x1 x2 x3 u = some (v, u') → z_W D A b gM u H → va_S A s.heap H locs → lv_has ls 4 [(0, .ref (b + 0)), (1, .int x1), (2, .int x2), (3, .int x3)] → W p l e { frames := 3, cells := 0, slots := 0, locals := 64 } s m args below meth c H locs 0 0 (z_End D A b gM below args s (some (.int v)) u') (F0 m 9 ls []) := by
  have hx := C0.1
  have hb := C0.2.1
  intro n
  induction n with
  | zero => intro x1 x2 x3 u H locs ls h hW hS hl; cases h
  | succ n ih =>
    intro x1 x2 x3 u H locs ls h hW hS hl
    rw [f_X11_reign_9_s] at h
    refine lv_iload_n hx hb dX11_reign_9 rfl (lv_at hl 3 rfl) ?_
    refine lv_aload_n hx hb dX11_reign_10 rfl (lv_at hl 0 rfl) ?_
    refine z_getr (o := 1) C0 hW fl_X11_7 rfl rfl rfl dX11_reign_11 ?_
    refine lv_iconst (v := (3 : Int32)) hx hb dX11_reign_14 (by decide) ?_
    refine z_iald (k := 3) C0 hW rfl rfl (by decide) (by decide) dX11_reign_15 ?_
    refine lv_icmp_ge (tgt := 85) hx hb dX11_reign_16 (by decide) (fun hc => ?_) (fun hc => ?_)
    · have h := z_t h hc
      clear hc
      refine lv_iload_n hx hb dX11_reign_85 rfl (lv_at hl 2 rfl) ?_
      cases h
      exact z_iret C0 hr hlk hW hS dX11_reign_86
    · have h := z_f h hc
      clear hc
      refine lv_aload_n hx hb dX11_reign_19 rfl (lv_at hl 0 rfl) ?_
      refine lv_iload_n hx hb dX11_reign_20 rfl (lv_at hl 3 rfl) ?_
      obtain ⟨t3, hq, h⟩ := z_bd h
      refine z_cvi (As := [.int x3]) C0 hml hl.1 hW hS (c_X11_waits l D A b x3 u hq) mv_X11_255 rfl ⟨Nat.le_of_ble_eq_true rfl, Nat.le_of_ble_eq_true rfl⟩ rfl rfl (Nat.le_of_ble_eq_true rfl) dX11_reign_21 (fun H locs hW hS => ?_)
      clear hq
      refine z_ifneZ C0 (tgt := 79) dX11_reign_24 (by decide) (fun hc => ?_) (fun hc => ?_)
      · have h := z_t h hc
        clear hc
        refine lv_iinc (v := x3 + (1 : Int32)) (lv' := [(3, .int (x3 + (1 : Int32))), (0, .ref (b + 0)), (1, .int x1), (2, .int x2)]) hx hb dX11_reign_79 hl (k := 3) rfl rfl (by decide) rfl (fun ls hl => ?_)
        refine lv_goto (tgt := 9) hx hb dX11_reign_82 (by decide) ?_
        exact ih _ _ _ _ _ _ _ h hW hS (lv_sub hl [1, 2, 3, 0] rfl)
      · have h := z_ff h hc
        clear hc
        refine lv_aload_n hx hb dX11_reign_27 rfl (lv_at hl 0 rfl) ?_
        refine lv_aload_n hx hb dX11_reign_28 rfl (lv_at hl 0 rfl) ?_
        refine lv_iload_n hx hb dX11_reign_29 rfl (lv_at hl 3 rfl) ?_
        refine lv_iconst (v := (0 : Int32)) hx hb dX11_reign_30 (by decide) ?_
        obtain ⟨r4, hq, h⟩ := z_bd h
        refine z_cvi (As := [.int x3, .int (0 : Int32)]) C0 hml hl.1 hW hS (c_X11_of l D A b x3 (0 : Int32) u hq) mv_X11_49 rfl ⟨Nat.le_of_ble_eq_true rfl, Nat.le_of_ble_eq_true rfl⟩ rfl rfl (Nat.le_of_ble_eq_true rfl) dX11_reign_31 (fun H locs hW hS => ?_)
        clear hq
        obtain ⟨r5, hq, h⟩ := z_bd h
        refine z_cvi (As := [.int r4]) C0 hml hl.1 hW hS (c_X11_firstIn l D A b r4 u hq) mv_X11_246 rfl ⟨Nat.le_of_ble_eq_true rfl, Nat.le_of_ble_eq_true rfl⟩ rfl rfl (Nat.le_of_ble_eq_true rfl) dX11_reign_34 (fun H locs hW hS => ?_)
        clear hq
        refine lv_iload_n hx hb dX11_reign_37 rfl (lv_at hl 3 rfl) ?_
        refine lv_icmp_ne (tgt := 79) hx hb dX11_reign_38 (by decide) (fun hc => ?_) (fun hc => ?_)
        · have h := z_f h hc
          clear hc
          refine lv_iinc (v := x3 + (1 : Int32)) (lv' := [(3, .int (x3 + (1 : Int32))), (0, .ref (b + 0)), (1, .int x1), (2, .int x2)]) hx hb dX11_reign_79 hl (k := 3) rfl rfl (by decide) rfl (fun ls hl => ?_)
          refine lv_goto (tgt := 9) hx hb dX11_reign_82 (by decide) ?_
          exact ih _ _ _ _ _ _ _ h hW hS (lv_sub hl [1, 2, 3, 0] rfl)
        · have h := z_t h hc
          clear hc
          refine lv_iload_n hx hb dX11_reign_41 rfl (lv_at hl 1 rfl) ?_
          refine lv_aload_n hx hb dX11_reign_42 rfl (lv_at hl 0 rfl) ?_
          refine lv_iload_n hx hb dX11_reign_43 rfl (lv_at hl 3 rfl) ?_
          refine lv_iconst (v := (0 : Int32)) hx hb dX11_reign_44 (by decide) ?_
          obtain ⟨r6, hq, h⟩ := z_bd h
          refine z_cvi (As := [.int x3, .int (0 : Int32)]) C0 hml hl.1 hW hS (c_X11_of l D A b x3 (0 : Int32) u hq) mv_X11_49 rfl ⟨Nat.le_of_ble_eq_true rfl, Nat.le_of_ble_eq_true rfl⟩ rfl rfl (Nat.le_of_ble_eq_true rfl) dX11_reign_45 (fun H locs hW hS => ?_)
          clear hq
          obtain ⟨t7, hq⟩ : ∃ y, f_X11_isOf x1 r6 u = y := ⟨_, rfl⟩
          have h := z_lz h hq
          refine z_csi (As := [.int x1, .int r6]) C0 hml hl.1 hW hS (c_X11_isOf l D A b x1 r6 u hq) ms_X11_262 ⟨Nat.le_of_ble_eq_true rfl, Nat.le_of_ble_eq_true rfl⟩ rfl rfl (Nat.le_of_ble_eq_true rfl) dX11_reign_48 (fun H locs hW hS => ?_)
          clear hq
          refine z_ifneZ C0 (tgt := 57) dX11_reign_51 (by decide) (fun hc => ?_) (fun hc => ?_)
          · have h := z_t h hc
            clear hc
            refine lv_iload_n hx hb dX11_reign_57 rfl (lv_at hl 2 rfl) ?_
            refine lv_iconst (v := (-1 : Int32)) hx hb dX11_reign_58 (by decide) ?_
            refine lv_icmp_eq (tgt := 77) hx hb dX11_reign_59 (by decide) (fun hc => ?_) (fun hc => ?_)
            · have h := z_t h hc
              clear hc
              refine lv_iload_n hx hb dX11_reign_77 rfl (lv_at hl 3 rfl) ?_
              refine lv_istore_n (lv' := [(2, .int x3), (0, .ref (b + 0)), (1, .int x1), (3, .int x3)]) hx hb dX11_reign_78 rfl hl (by decide) rfl (fun ls hl => ?_)
              refine lv_iinc (v := x3 + (1 : Int32)) (lv' := [(3, .int (x3 + (1 : Int32))), (2, .int x3), (0, .ref (b + 0)), (1, .int x1)]) hx hb dX11_reign_79 hl (k := 3) rfl rfl (by decide) rfl (fun ls hl => ?_)
              refine lv_goto (tgt := 9) hx hb dX11_reign_82 (by decide) ?_
              exact ih _ _ _ _ _ _ _ h hW hS (lv_sub hl [2, 3, 1, 0] rfl)
            · have h := z_f h hc
              clear hc
              refine lv_aload_n hx hb dX11_reign_62 rfl (lv_at hl 0 rfl) ?_
              refine lv_iload_n hx hb dX11_reign_63 rfl (lv_at hl 3 rfl) ?_
              refine lv_iconst (v := (2 : Int32)) hx hb dX11_reign_64 (by decide) ?_
              obtain ⟨r8, hq, h⟩ := z_bd h
              refine z_cvi (As := [.int x3, .int (2 : Int32)]) C0 hml hl.1 hW hS (c_X11_of l D A b x3 (2 : Int32) u hq) mv_X11_49 rfl ⟨Nat.le_of_ble_eq_true rfl, Nat.le_of_ble_eq_true rfl⟩ rfl rfl (Nat.le_of_ble_eq_true rfl) dX11_reign_65 (fun H locs hW hS => ?_)
              clear hq
              refine lv_aload_n hx hb dX11_reign_68 rfl (lv_at hl 0 rfl) ?_
              refine lv_iload_n hx hb dX11_reign_69 rfl (lv_at hl 2 rfl) ?_
              refine lv_iconst (v := (2 : Int32)) hx hb dX11_reign_70 (by decide) ?_
              obtain ⟨r9, hq, h⟩ := z_bd h
              refine z_cvi (As := [.int x2, .int (2 : Int32)]) C0 hml hl.1 hW hS (c_X11_of l D A b x2 (2 : Int32) u hq) mv_X11_49 rfl ⟨Nat.le_of_ble_eq_true rfl, Nat.le_of_ble_eq_true rfl⟩ rfl rfl (Nat.le_of_ble_eq_true rfl) dX11_reign_71 (fun H locs hW hS => ?_)
              clear hq
              refine lv_icmp_le (tgt := 79) hx hb dX11_reign_74 (by decide) (fun hc => ?_) (fun hc => ?_)
              · have h := z_t h hc
                clear hc
                refine lv_iinc (v := x3 + (1 : Int32)) (lv' := [(3, .int (x3 + (1 : Int32))), (0, .ref (b + 0)), (1, .int x1), (2, .int x2)]) hx hb dX11_reign_79 hl (k := 3) rfl rfl (by decide) rfl (fun ls hl => ?_)
                refine lv_goto (tgt := 9) hx hb dX11_reign_82 (by decide) ?_
                exact ih _ _ _ _ _ _ _ h hW hS (lv_sub hl [1, 2, 3, 0] rfl)
              · have h := z_f h hc
                clear hc
                refine lv_iload_n hx hb dX11_reign_77 rfl (lv_at hl 3 rfl) ?_
                refine lv_istore_n (lv' := [(2, .int x3), (0, .ref (b + 0)), (1, .int x1), (3, .int x3)]) hx hb dX11_reign_78 rfl hl (by decide) rfl (fun ls hl => ?_)
                refine lv_iinc (v := x3 + (1 : Int32)) (lv' := [(3, .int (x3 + (1 : Int32))), (2, .int x3), (0, .ref (b + 0)), (1, .int x1)]) hx hb dX11_reign_79 hl (k := 3) rfl rfl (by decide) rfl (fun ls hl => ?_)
                refine lv_goto (tgt := 9) hx hb dX11_reign_82 (by decide) ?_
                exact ih _ _ _ _ _ _ _ h hW hS (lv_sub hl [2, 3, 1, 0] rfl)
          · have h := z_ff h hc
            clear hc
            refine lv_goto (tgt := 79) hx hb dX11_reign_54 (by decide) ?_
            refine lv_iinc (v := x3 + (1 : Int32)) (lv' := [(3, .int (x3 + (1 : Int32))), (0, .ref (b + 0)), (1, .int x1), (2, .int x2)]) hx hb dX11_reign_79 hl (k := 3) rfl rfl (by decide) rfl (fun ls hl => ?_)
            refine lv_goto (tgt := 9) hx hb dX11_reign_82 (by decide) ?_
            exact ih _ _ _ _ _ _ _ h hW hS (lv_sub hl [1, 2, 3, 0] rfl)
theorem f_X11_reign_e  (u : zU) : f_X11_reign  u = z_b2 (f_X11_affords u) (fun r1 u2 => f_X11_reign_9 5000 r1 (-1 : Int32) (0 : Int32) u2) := rfl
set_option maxRecDepth 100000 in
set_option maxHeartbeats 4000000 in
theorem c_X11_reign (l : Launch) (D : zD) (A : Nat → Prop) (b : Nat)  (u : zU) {v : Int32} {u' : zU} (h : f_X11_reign  u = some (v, u')) : z_M l D A b gM yX11_reign cX11_reign 4 (some .int) 3 64 [.ref (b + 0)] u (some (.int v)) u' := by
  refine z_enter (by decide) (Nat.le_of_ble_eq_true rfl) ?_
  intro p e s m below meth c ls C0 hr hml hlk hW hS hl
  have hl : lv_has ls 4 [(0, .ref (b + 0))] := hl
  have hx := C0.1
  have hb := C0.2.1
  rw [f_X11_reign_e] at h
  refine lv_aload_n hx hb dX11_reign_0 rfl (lv_at hl 0 rfl) ?_
  obtain ⟨r1, u2, hq, h⟩ := z_bd2 h
  refine z_cvi (As := []) C0 hml hl.1 hW hS (c_X11_affords l D A b  u hq) mv_X11_335 rfl ⟨Nat.le_of_ble_eq_true rfl, Nat.le_of_ble_eq_true rfl⟩ rfl rfl (Nat.le_of_ble_eq_true rfl) dX11_reign_1 (fun H locs hW hS => ?_)
  clear hq
  refine lv_istore_n (lv' := [(1, .int r1), (0, .ref (b + 0))]) hx hb dX11_reign_4 rfl hl (by decide) rfl (fun ls hl => ?_)
  refine lv_iconst (v := (-1 : Int32)) hx hb dX11_reign_5 (by decide) ?_
  refine lv_istore_n (lv' := [(2, .int (-1 : Int32)), (1, .int r1), (0, .ref (b + 0))]) hx hb dX11_reign_6 rfl hl (by decide) rfl (fun ls hl => ?_)
  refine lv_iconst (v := (0 : Int32)) hx hb dX11_reign_7 (by decide) ?_
  refine lv_istore_n (lv' := [(3, .int (0 : Int32)), (2, .int (-1 : Int32)), (1, .int r1), (0, .ref (b + 0))]) hx hb dX11_reign_8 rfl hl (by decide) rfl (fun ls hl => ?_)
  exact l_X11_reign_9 C0 hr hml hlk 5000 _ _ _ _ _ _ _ h hW hS (lv_sub hl [3, 2, 1, 0] rfl)
def f_X11_canBe (a0 : Int32) (a1 : Int32) (u : zU) : Bool :=
  z_let (z_rem a0 (10 : Int32)) (fun z1 => z_let (f_X11_isIn a1 (z1 + (1 : Int32)) ((z1 + (a0 / (10 : Int32))) + (1 : Int32)) u) (fun t2 => t2))
theorem f_X11_canBe_e (a0 : Int32) (a1 : Int32) (u : zU) : f_X11_canBe a0 a1 u = z_let (z_rem a0 (10 : Int32)) (fun z1 => z_let (f_X11_isIn a1 (z1 + (1 : Int32)) ((z1 + (a0 / (10 : Int32))) + (1 : Int32)) u) (fun t2 => t2)) := rfl
set_option maxRecDepth 100000 in
set_option maxHeartbeats 4000000 in
theorem c_X11_canBe (l : Launch) (D : zD) (A : Nat → Prop) (b : Nat) (a0 : Int32) (a1 : Int32) (u : zU) {v : Bool} (h : f_X11_canBe a0 a1 u = v) : z_M l D A b gM yX11_canBe cX11_canBe 3 (some .boolean) 1 22 [.int a0, .int a1] u (some (.int (bI v))) u := by
  refine z_enter (by decide) (Nat.le_of_ble_eq_true rfl) ?_
  intro p e s m below meth c ls C0 hr hml hlk hW hS hl
  have hl : lv_has ls 3 [(0, .int a0), (1, .int a1)] := hl
  have hx := C0.1
  have hb := C0.2.1
  rw [f_X11_canBe_e] at h
  refine lv_iload_n hx hb dX11_canBe_0 rfl (lv_at hl 0 rfl) ?_
  refine lv_bipush (v := (10 : Int32)) hx hb dX11_canBe_1 (by decide) ?_
  refine lv_irem hx hb dX11_canBe_3 (by decide) ?_
  refine lv_topi (fun z1 e1 => ?_)
  have h := z_ly h e1
  clear e1
  refine lv_istore_n (lv' := [(2, .int z1), (0, .int a0), (1, .int a1)]) hx hb dX11_canBe_4 rfl hl (by decide) rfl (fun ls hl => ?_)
  refine lv_iload_n hx hb dX11_canBe_5 rfl (lv_at hl 2 rfl) ?_
  refine lv_iload_n hx hb dX11_canBe_6 rfl (lv_at hl 0 rfl) ?_
  refine lv_iconst (v := (1 : Int32)) hx hb dX11_canBe_7 (by decide) ?_
  refine lv_iadd hx hb dX11_canBe_8 ?_
  refine lv_iload_n hx hb dX11_canBe_9 rfl (lv_at hl 0 rfl) ?_
  refine lv_iload_n hx hb dX11_canBe_10 rfl (lv_at hl 1 rfl) ?_
  refine lv_bipush (v := (10 : Int32)) hx hb dX11_canBe_11 (by decide) ?_
  refine lv_idiv hx hb dX11_canBe_13 (by decide) ?_
  refine lv_iadd hx hb dX11_canBe_14 ?_
  refine lv_iconst (v := (1 : Int32)) hx hb dX11_canBe_15 (by decide) ?_
  refine lv_iadd hx hb dX11_canBe_16 ?_
  obtain ⟨t2, hq⟩ : ∃ y, f_X11_isIn a1 (z1 + (1 : Int32)) ((z1 + (a0 / (10 : Int32))) + (1 : Int32)) u = y := ⟨_, rfl⟩
  have h := z_lz h hq
  refine z_csi (As := [.int a1, .int (z1 + (1 : Int32)), .int ((z1 + (a0 / (10 : Int32))) + (1 : Int32))]) C0 hml hl.1 hW hS (c_X11_isIn l D A b a1 (z1 + (1 : Int32)) ((z1 + (a0 / (10 : Int32))) + (1 : Int32)) u hq) ms_X11_45 ⟨Nat.le_of_ble_eq_true rfl, Nat.le_of_ble_eq_true rfl⟩ rfl rfl (Nat.le_of_ble_eq_true rfl) dX11_canBe_17 (fun H locs hW hS => ?_)
  clear hq
  cases h
  exact z_zret C0 hr hlk hW hS dX11_canBe_20
def f_X11_isDraw (a1 : Int32) (u : zU) : Bool :=
  z_let (f_X11_isIn a1 (0 : Int32) ((u 1 7) - (1 : Int32)) u) (fun t1 => t1)
theorem f_X11_isDraw_e (a1 : Int32) (u : zU) : f_X11_isDraw a1 u = z_let (f_X11_isIn a1 (0 : Int32) ((u 1 7) - (1 : Int32)) u) (fun t1 => t1) := rfl
set_option maxRecDepth 100000 in
set_option maxHeartbeats 4000000 in
theorem c_X11_isDraw (l : Launch) (D : zD) (A : Nat → Prop) (b : Nat) (a1 : Int32) (u : zU) {v : Bool} (h : f_X11_isDraw a1 u = v) : z_M l D A b gM yX11_isDraw cX11_isDraw 2 (some .boolean) 1 22 [.ref (b + 0), .int a1] u (some (.int (bI v))) u := by
  refine z_enter (by decide) (Nat.le_of_ble_eq_true rfl) ?_
  intro p e s m below meth c ls C0 hr hml hlk hW hS hl
  have hl : lv_has ls 2 [(0, .ref (b + 0)), (1, .int a1)] := hl
  have hx := C0.1
  have hb := C0.2.1
  rw [f_X11_isDraw_e] at h
  refine lv_iload_n hx hb dX11_isDraw_0 rfl (lv_at hl 1 rfl) ?_
  refine lv_iconst (v := (0 : Int32)) hx hb dX11_isDraw_1 (by decide) ?_
  refine lv_aload_n hx hb dX11_isDraw_2 rfl (lv_at hl 0 rfl) ?_
  refine z_getr (o := 1) C0 hW fl_X11_7 rfl rfl rfl dX11_isDraw_3 ?_
  refine lv_bipush (v := (7 : Int32)) hx hb dX11_isDraw_6 (by decide) ?_
  refine z_iald (k := 7) C0 hW rfl rfl (by decide) (by decide) dX11_isDraw_8 ?_
  refine lv_iconst (v := (1 : Int32)) hx hb dX11_isDraw_9 (by decide) ?_
  refine lv_isub hx hb dX11_isDraw_10 ?_
  obtain ⟨t1, hq⟩ : ∃ y, f_X11_isIn a1 (0 : Int32) ((u 1 7) - (1 : Int32)) u = y := ⟨_, rfl⟩
  have h := z_lz h hq
  refine z_csi (As := [.int a1, .int (0 : Int32), .int ((u 1 7) - (1 : Int32))]) C0 hml hl.1 hW hS (c_X11_isIn l D A b a1 (0 : Int32) ((u 1 7) - (1 : Int32)) u hq) ms_X11_45 ⟨Nat.le_of_ble_eq_true rfl, Nat.le_of_ble_eq_true rfl⟩ rfl rfl (Nat.le_of_ble_eq_true rfl) dX11_isDraw_11 (fun H locs hW hS => ?_)
  clear hq
  cases h
  exact z_zret C0 hr hlk hW hS dX11_isDraw_14
def f_X11_isSame_19 : Nat → Int32 → zU → Option (Bool)
  | 0, _, _ => none
  | n + 1, x1, u =>
    if (u 1 3) ≤ x1 then (some true) else ((f_X11_of x1 (0 : Int32) u).bind (fun r1 => if z_in (((25 : Int32) + ((4 : Int32) * x1)) + (0 : Int32)) 305 = true then (z_let (u 3 (((25 : Int32) + ((4 : Int32) * x1)) + (0 : Int32)).toNatClampNeg) (fun z2 => if r1 = z2 then (f_X11_isSame_19 n (x1 + (1 : Int32)) u) else (some false))) else none))
theorem f_X11_isSame_19_s (n : Nat) (x1 : Int32) (u : zU) : f_X11_isSame_19 (n + 1) x1 u = if (u 1 3) ≤ x1 then (some true) else ((f_X11_of x1 (0 : Int32) u).bind (fun r1 => if z_in (((25 : Int32) + ((4 : Int32) * x1)) + (0 : Int32)) 305 = true then (z_let (u 3 (((25 : Int32) + ((4 : Int32) * x1)) + (0 : Int32)).toNatClampNeg) (fun z2 => if r1 = z2 then (f_X11_isSame_19 n (x1 + (1 : Int32)) u) else (some false))) else none)) := rfl
def f_X11_isSame  (u : zU) : Option (Bool) :=
  if (u 1 4) = (u 3 4) then (f_X11_isSame_19 5000 (0 : Int32) u) else (some false)
set_option maxRecDepth 100000 in
set_option maxHeartbeats 4000000 in
theorem l_X11_isSame_19 {l : Launch} {D : zD} {A : Nat → Prop} {b : Nat} {p : Program} {e : Env} {s : State} {m : MethodId} {args : Array Value} {below : List Frame} {meth : Method} {c : Code} {v : Bool} {u : zU} (C0 : z_C p c cX11_isSame s m args yX11_isSame.cls D) (hr : meth.sig.returnType = (some .boolean)) (hml : c.maxLocals = 2) (hlk : meth.locks = false) : ∀ (n : Nat) (x1 : Int32) (H : Heap) (locs : List Loc) (ls : Array Slot), f_X11_isSame_19 n x1 u = some v → z_W D A b gM u H → va_S A s.heap H locs → lv_has ls 2 [(0, .ref (b + 0)), (1, .int x1)] → W p l e { frames := 1, cells := 0, slots := 0, locals := 22 } s m args below meth c H locs 0 0 (z_End D A b gM below args s (some (.int (bI v))) u) (F0 m 19 ls []) := by
  have hx := C0.1
  have hb := C0.2.1
  intro n
  induction n with
  | zero => intro x1  H locs ls h hW hS hl; cases h
  | succ n ih =>
    intro x1  H locs ls h hW hS hl
    rw [f_X11_isSame_19_s] at h
    refine lv_iload_n hx hb dX11_isSame_19 rfl (lv_at hl 1 rfl) ?_
    refine lv_aload_n hx hb dX11_isSame_20 rfl (lv_at hl 0 rfl) ?_
    refine z_getr (o := 1) C0 hW fl_X11_7 rfl rfl rfl dX11_isSame_21 ?_
    refine lv_iconst (v := (3 : Int32)) hx hb dX11_isSame_24 (by decide) ?_
    refine z_iald (k := 3) C0 hW rfl rfl (by decide) (by decide) dX11_isSame_25 ?_
    refine lv_icmp_ge (tgt := 59) hx hb dX11_isSame_26 (by decide) (fun hc => ?_) (fun hc => ?_)
    · have h := z_t h hc
      clear hc
      refine lv_iconst (v := (1 : Int32)) hx hb dX11_isSame_59 (by decide) ?_
      cases h
      exact z_zret (x := true) C0 hr hlk hW hS dX11_isSame_60
    · have h := z_f h hc
      clear hc
      refine lv_aload_n hx hb dX11_isSame_29 rfl (lv_at hl 0 rfl) ?_
      refine lv_iload_n hx hb dX11_isSame_30 rfl (lv_at hl 1 rfl) ?_
      refine lv_iconst (v := (0 : Int32)) hx hb dX11_isSame_31 (by decide) ?_
      obtain ⟨r1, hq, h⟩ := z_bd h
      refine z_cvi (As := [.int x1, .int (0 : Int32)]) C0 hml hl.1 hW hS (c_X11_of l D A b x1 (0 : Int32) u hq) mv_X11_49 rfl ⟨Nat.le_of_ble_eq_true rfl, Nat.le_of_ble_eq_true rfl⟩ rfl rfl (Nat.le_of_ble_eq_true rfl) dX11_isSame_32 (fun H locs hW hS => ?_)
      clear hq
      refine lv_aload_n hx hb dX11_isSame_35 rfl (lv_at hl 0 rfl) ?_
      refine z_getr (o := 3) C0 hW fl_X11_16 rfl rfl rfl dX11_isSame_36 ?_
      refine lv_bipush (v := (25 : Int32)) hx hb dX11_isSame_39 (by decide) ?_
      refine lv_iconst (v := (4 : Int32)) hx hb dX11_isSame_41 (by decide) ?_
      refine lv_iload_n hx hb dX11_isSame_42 rfl (lv_at hl 1 rfl) ?_
      refine lv_imul hx hb dX11_isSame_43 ?_
      refine lv_iadd hx hb dX11_isSame_44 ?_
      refine lv_iconst (v := (0 : Int32)) hx hb dX11_isSame_45 (by decide) ?_
      refine lv_iadd hx hb dX11_isSame_46 ?_
      obtain ⟨hin, h⟩ := z_if h
      refine z_iald C0 hW rfl rfl hin rfl dX11_isSame_47 ?_
      clear hin
      refine lv_topi (fun z2 e1 => ?_)
      have h := z_ly h e1
      clear e1
      refine lv_icmp_eq (tgt := 53) hx hb dX11_isSame_48 (by decide) (fun hc => ?_) (fun hc => ?_)
      · have h := z_t h hc
        clear hc
        refine lv_iinc (v := x1 + (1 : Int32)) (lv' := [(1, .int (x1 + (1 : Int32))), (0, .ref (b + 0))]) hx hb dX11_isSame_53 hl (k := 1) rfl rfl (by decide) rfl (fun ls hl => ?_)
        refine lv_goto (tgt := 19) hx hb dX11_isSame_56 (by decide) ?_
        exact ih _ _ _ _ h hW hS (lv_sub hl [1, 0] rfl)
      · have h := z_f h hc
        clear hc
        refine lv_iconst (v := (0 : Int32)) hx hb dX11_isSame_51 (by decide) ?_
        cases h
        exact z_zret (x := false) C0 hr hlk hW hS dX11_isSame_52
theorem f_X11_isSame_e  (u : zU) : f_X11_isSame  u = if (u 1 4) = (u 3 4) then (f_X11_isSame_19 5000 (0 : Int32) u) else (some false) := rfl
set_option maxRecDepth 100000 in
set_option maxHeartbeats 4000000 in
theorem c_X11_isSame (l : Launch) (D : zD) (A : Nat → Prop) (b : Nat)  (u : zU) {v : Bool} (h : f_X11_isSame  u = some v) : z_M l D A b gM yX11_isSame cX11_isSame 2 (some .boolean) 1 22 [.ref (b + 0)] u (some (.int (bI v))) u := by
  refine z_enter (by decide) (Nat.le_of_ble_eq_true rfl) ?_
  intro p e s m below meth c ls C0 hr hml hlk hW hS hl
  have hl : lv_has ls 2 [(0, .ref (b + 0))] := hl
  have hx := C0.1
  have hb := C0.2.1
  rw [f_X11_isSame_e] at h
  refine lv_aload_n hx hb dX11_isSame_0 rfl (lv_at hl 0 rfl) ?_
  refine z_getr (o := 1) C0 hW fl_X11_7 rfl rfl rfl dX11_isSame_1 ?_
  refine lv_iconst (v := (4 : Int32)) hx hb dX11_isSame_4 (by decide) ?_
  refine z_iald (k := 4) C0 hW rfl rfl (by decide) (by decide) dX11_isSame_5 ?_
  refine lv_aload_n hx hb dX11_isSame_6 rfl (lv_at hl 0 rfl) ?_
  refine z_getr (o := 3) C0 hW fl_X11_16 rfl rfl rfl dX11_isSame_7 ?_
  refine lv_iconst (v := (4 : Int32)) hx hb dX11_isSame_10 (by decide) ?_
  refine z_iald (k := 4) C0 hW rfl rfl (by decide) (by decide) dX11_isSame_11 ?_
  refine lv_icmp_eq (tgt := 17) hx hb dX11_isSame_12 (by decide) (fun hc => ?_) (fun hc => ?_)
  · have h := z_t h hc
    clear hc
    refine lv_iconst (v := (0 : Int32)) hx hb dX11_isSame_17 (by decide) ?_
    refine lv_istore_n (lv' := [(1, .int (0 : Int32)), (0, .ref (b + 0))]) hx hb dX11_isSame_18 rfl hl (by decide) rfl (fun ls hl => ?_)
    exact l_X11_isSame_19 C0 hr hml hlk 5000 _ _ _ _ h hW hS (lv_sub hl [1, 0] rfl)
  · have h := z_f h hc
    clear hc
    refine lv_iconst (v := (0 : Int32)) hx hb dX11_isSame_15 (by decide) ?_
    cases h
    exact z_zret (x := false) C0 hr hlk hW hS dX11_isSame_16
def f_X11_richest_9 : Nat → Int32 → Int32 → zU → Option (Int32 × zU)
  | 0, _, _, _ => none
  | n + 1, x1, x2, u =>
    if (u 1 3) ≤ x2 then (some (x1, u)) else (if x1 = (-1 : Int32) then (f_X11_richest_9 n x2 (x2 + (1 : Int32)) u) else ((f_X11_of x2 (2 : Int32) u).bind (fun r2 => (f_X11_of x1 (2 : Int32) u).bind (fun r3 => if r2 ≤ r3 then (f_X11_richest_9 n x1 (x2 + (1 : Int32)) u) else (f_X11_richest_9 n x2 (x2 + (1 : Int32)) u)))))
theorem f_X11_richest_9_s (n : Nat) (x1 : Int32) (x2 : Int32) (u : zU) : f_X11_richest_9 (n + 1) x1 x2 u = if (u 1 3) ≤ x2 then (some (x1, u)) else (if x1 = (-1 : Int32) then (f_X11_richest_9 n x2 (x2 + (1 : Int32)) u) else ((f_X11_of x2 (2 : Int32) u).bind (fun r2 => (f_X11_of x1 (2 : Int32) u).bind (fun r3 => if r2 ≤ r3 then (f_X11_richest_9 n x1 (x2 + (1 : Int32)) u) else (f_X11_richest_9 n x2 (x2 + (1 : Int32)) u))))) := rfl
def f_X11_richest  (u : zU) : Option (Int32 × zU) :=
  z_let (z_up u 0 0 (0 : Int32)) (fun u1 => f_X11_richest_9 5000 (-1 : Int32) (0 : Int32) u1)
set_option maxRecDepth 100000 in
set_option maxHeartbeats 4000000 in
theorem l_X11_richest_9 {l : Launch} {D : zD} {A : Nat → Prop} {b : Nat} {p : Program} {e : Env} {s : State} {m : MethodId} {args : Array Value} {below : List Frame} {meth : Method} {c : Code} {v : Int32} {u' : zU} (C0 : z_C p c cX11_richest s m args yX11_richest.cls D) (hr : meth.sig.returnType = (some .int)) (hml : c.maxLocals = 3) (hlk : meth.locks = false) : ∀ (n : Nat) (x1 : Int32) (x2 : Int32) (u : zU) (H : Heap) (locs : List Loc) (ls : Array Slot), f_X11_richest_9 n x1 x2 u = some (v, u') → z_W D A b gM u H → va_S A s.heap H locs → lv_has ls 3 [(0, .ref (b + 0)), (1, .int x1), (2, .int x2)] → W p l e { frames := 1, cells := 0, slots := 0, locals := 22 } s m args below meth c H locs 0 0 (z_End D A b gM below args s (some (.int v)) u') (F0 m 9 ls []) := by
  have hx := C0.1
  have hb := C0.2.1
  intro n
  induction n with
  | zero => intro x1 x2 u H locs ls h hW hS hl; cases h
  | succ n ih =>
    intro x1 x2 u H locs ls h hW hS hl
    rw [f_X11_richest_9_s] at h
    refine lv_iload_n hx hb dX11_richest_9 rfl (lv_at hl 2 rfl) ?_
    refine lv_aload_n hx hb dX11_richest_10 rfl (lv_at hl 0 rfl) ?_
    refine z_getr (o := 1) C0 hW fl_X11_7 rfl rfl rfl dX11_richest_11 ?_
    refine lv_iconst (v := (3 : Int32)) hx hb dX11_richest_14 (by decide) ?_
    refine z_iald (k := 3) C0 hW rfl rfl (by decide) (by decide) dX11_richest_15 ?_
    refine lv_icmp_ge (tgt := 47) hx hb dX11_richest_16 (by decide) (fun hc => ?_) (fun hc => ?_)
    · have h := z_t h hc
      clear hc
      refine lv_iload_n hx hb dX11_richest_47 rfl (lv_at hl 1 rfl) ?_
      cases h
      exact z_iret C0 hr hlk hW hS dX11_richest_48
    · have h := z_f h hc
      clear hc
      refine lv_iload_n hx hb dX11_richest_19 rfl (lv_at hl 1 rfl) ?_
      refine lv_iconst (v := (-1 : Int32)) hx hb dX11_richest_20 (by decide) ?_
      refine lv_icmp_eq (tgt := 39) hx hb dX11_richest_21 (by decide) (fun hc => ?_) (fun hc => ?_)
      · have h := z_t h hc
        clear hc
        refine lv_iload_n hx hb dX11_richest_39 rfl (lv_at hl 2 rfl) ?_
        refine lv_istore_n (lv' := [(1, .int x2), (0, .ref (b + 0)), (2, .int x2)]) hx hb dX11_richest_40 rfl hl (by decide) rfl (fun ls hl => ?_)
        refine lv_iinc (v := x2 + (1 : Int32)) (lv' := [(2, .int (x2 + (1 : Int32))), (1, .int x2), (0, .ref (b + 0))]) hx hb dX11_richest_41 hl (k := 2) rfl rfl (by decide) rfl (fun ls hl => ?_)
        refine lv_goto (tgt := 9) hx hb dX11_richest_44 (by decide) ?_
        exact ih _ _ _ _ _ _ h hW hS (lv_sub hl [2, 1, 0] rfl)
      · have h := z_f h hc
        clear hc
        refine lv_aload_n hx hb dX11_richest_24 rfl (lv_at hl 0 rfl) ?_
        refine lv_iload_n hx hb dX11_richest_25 rfl (lv_at hl 2 rfl) ?_
        refine lv_iconst (v := (2 : Int32)) hx hb dX11_richest_26 (by decide) ?_
        obtain ⟨r2, hq, h⟩ := z_bd h
        refine z_cvi (As := [.int x2, .int (2 : Int32)]) C0 hml hl.1 hW hS (c_X11_of l D A b x2 (2 : Int32) u hq) mv_X11_49 rfl ⟨Nat.le_of_ble_eq_true rfl, Nat.le_of_ble_eq_true rfl⟩ rfl rfl (Nat.le_of_ble_eq_true rfl) dX11_richest_27 (fun H locs hW hS => ?_)
        clear hq
        refine lv_aload_n hx hb dX11_richest_30 rfl (lv_at hl 0 rfl) ?_
        refine lv_iload_n hx hb dX11_richest_31 rfl (lv_at hl 1 rfl) ?_
        refine lv_iconst (v := (2 : Int32)) hx hb dX11_richest_32 (by decide) ?_
        obtain ⟨r3, hq, h⟩ := z_bd h
        refine z_cvi (As := [.int x1, .int (2 : Int32)]) C0 hml hl.1 hW hS (c_X11_of l D A b x1 (2 : Int32) u hq) mv_X11_49 rfl ⟨Nat.le_of_ble_eq_true rfl, Nat.le_of_ble_eq_true rfl⟩ rfl rfl (Nat.le_of_ble_eq_true rfl) dX11_richest_33 (fun H locs hW hS => ?_)
        clear hq
        refine lv_icmp_le (tgt := 41) hx hb dX11_richest_36 (by decide) (fun hc => ?_) (fun hc => ?_)
        · have h := z_t h hc
          clear hc
          refine lv_iinc (v := x2 + (1 : Int32)) (lv' := [(2, .int (x2 + (1 : Int32))), (0, .ref (b + 0)), (1, .int x1)]) hx hb dX11_richest_41 hl (k := 2) rfl rfl (by decide) rfl (fun ls hl => ?_)
          refine lv_goto (tgt := 9) hx hb dX11_richest_44 (by decide) ?_
          exact ih _ _ _ _ _ _ h hW hS (lv_sub hl [1, 2, 0] rfl)
        · have h := z_f h hc
          clear hc
          refine lv_iload_n hx hb dX11_richest_39 rfl (lv_at hl 2 rfl) ?_
          refine lv_istore_n (lv' := [(1, .int x2), (0, .ref (b + 0)), (2, .int x2)]) hx hb dX11_richest_40 rfl hl (by decide) rfl (fun ls hl => ?_)
          refine lv_iinc (v := x2 + (1 : Int32)) (lv' := [(2, .int (x2 + (1 : Int32))), (1, .int x2), (0, .ref (b + 0))]) hx hb dX11_richest_41 hl (k := 2) rfl rfl (by decide) rfl (fun ls hl => ?_)
          refine lv_goto (tgt := 9) hx hb dX11_richest_44 (by decide) ?_
          exact ih _ _ _ _ _ _ h hW hS (lv_sub hl [2, 1, 0] rfl)
theorem f_X11_richest_e  (u : zU) : f_X11_richest  u = z_let (z_up u 0 0 (0 : Int32)) (fun u1 => f_X11_richest_9 5000 (-1 : Int32) (0 : Int32) u1) := rfl
set_option maxRecDepth 100000 in
set_option maxHeartbeats 4000000 in
theorem c_X11_richest (l : Launch) (D : zD) (A : Nat → Prop) (b : Nat)  (u : zU) {v : Int32} {u' : zU} (h : f_X11_richest  u = some (v, u')) : z_M l D A b gM yX11_richest cX11_richest 3 (some .int) 1 22 [.ref (b + 0)] u (some (.int v)) u' := by
  refine z_enter (by decide) (Nat.le_of_ble_eq_true rfl) ?_
  intro p e s m below meth c ls C0 hr hml hlk hW hS hl
  have hl : lv_has ls 3 [(0, .ref (b + 0))] := hl
  have hx := C0.1
  have hb := C0.2.1
  rw [f_X11_richest_e] at h
  refine lv_aload_n hx hb dX11_richest_0 rfl (lv_at hl 0 rfl) ?_
  refine lv_iconst (v := (0 : Int32)) hx hb dX11_richest_1 (by decide) ?_
  refine z_puti C0 hW hS fl_X11_42 rfl rfl rfl rfl dX11_richest_2 (fun H locs u1 e1 hW hS => ?_)
  have h := z_ly h e1
  clear e1
  refine lv_iconst (v := (-1 : Int32)) hx hb dX11_richest_5 (by decide) ?_
  refine lv_istore_n (lv' := [(1, .int (-1 : Int32)), (0, .ref (b + 0))]) hx hb dX11_richest_6 rfl hl (by decide) rfl (fun ls hl => ?_)
  refine lv_iconst (v := (0 : Int32)) hx hb dX11_richest_7 (by decide) ?_
  refine lv_istore_n (lv' := [(2, .int (0 : Int32)), (1, .int (-1 : Int32)), (0, .ref (b + 0))]) hx hb dX11_richest_8 rfl hl (by decide) rfl (fun ls hl => ?_)
  exact l_X11_richest_9 C0 hr hml hlk 5000 _ _ _ _ _ _ h hW hS (lv_sub hl [2, 1, 0] rfl)
def f_X11_room_9 : Nat → Int32 → Int32 → zU → Option (Int32 × zU)
  | 0, _, _, _ => none
  | n + 1, x1, x2, u =>
    if (8 : Int32) ≤ x2 then (some (x1, u)) else ((f_X11_hasRoom x2 u).bind (fun t2 => if t2 = true then (z_let (x1 ||| ((1 : Int32) <<< (x2 &&& 31))) (fun z4 => f_X11_room_9 n z4 (x2 + (1 : Int32)) u)) else (z_let (x1 ||| (0 : Int32)) (fun z3 => f_X11_room_9 n z3 (x2 + (1 : Int32)) u))))
theorem f_X11_room_9_s (n : Nat) (x1 : Int32) (x2 : Int32) (u : zU) : f_X11_room_9 (n + 1) x1 x2 u = if (8 : Int32) ≤ x2 then (some (x1, u)) else ((f_X11_hasRoom x2 u).bind (fun t2 => if t2 = true then (z_let (x1 ||| ((1 : Int32) <<< (x2 &&& 31))) (fun z4 => f_X11_room_9 n z4 (x2 + (1 : Int32)) u)) else (z_let (x1 ||| (0 : Int32)) (fun z3 => f_X11_room_9 n z3 (x2 + (1 : Int32)) u)))) := rfl
def f_X11_room  (u : zU) : Option (Int32 × zU) :=
  z_let (z_up u 0 0 (0 : Int32)) (fun u1 => f_X11_room_9 5000 (0 : Int32) (0 : Int32) u1)
set_option maxRecDepth 100000 in
set_option maxHeartbeats 4000000 in
theorem l_X11_room_9 {l : Launch} {D : zD} {A : Nat → Prop} {b : Nat} {p : Program} {e : Env} {s : State} {m : MethodId} {args : Array Value} {below : List Frame} {meth : Method} {c : Code} {v : Int32} {u' : zU} (C0 : z_C p c cX11_room s m args yX11_room.cls D) (hr : meth.sig.returnType = (some .int)) (hml : c.maxLocals = 3) (hlk : meth.locks = false) : ∀ (n : Nat) (x1 : Int32) (x2 : Int32) (u : zU) (H : Heap) (locs : List Loc) (ls : Array Slot), f_X11_room_9 n x1 x2 u = some (v, u') → z_W D A b gM u H → va_S A s.heap H locs → lv_has ls 3 [(0, .ref (b + 0)), (1, .int x1), (2, .int x2)] → W p l e { frames := 3, cells := 0, slots := 0, locals := 66 } s m args below meth c H locs 0 0 (z_End D A b gM below args s (some (.int v)) u') (F0 m 9 ls []) := by
  have hx := C0.1
  have hb := C0.2.1
  intro n
  induction n with
  | zero => intro x1 x2 u H locs ls h hW hS hl; cases h
  | succ n ih =>
    intro x1 x2 u H locs ls h hW hS hl
    rw [f_X11_room_9_s] at h
    refine lv_iload_n hx hb dX11_room_9 rfl (lv_at hl 2 rfl) ?_
    refine lv_bipush (v := (8 : Int32)) hx hb dX11_room_10 (by decide) ?_
    refine lv_icmp_ge (tgt := 39) hx hb dX11_room_12 (by decide) (fun hc => ?_) (fun hc => ?_)
    · have h := z_t h hc
      clear hc
      refine lv_iload_n hx hb dX11_room_39 rfl (lv_at hl 1 rfl) ?_
      cases h
      exact z_iret C0 hr hlk hW hS dX11_room_40
    · have h := z_f h hc
      clear hc
      refine lv_iload_n hx hb dX11_room_15 rfl (lv_at hl 1 rfl) ?_
      refine lv_aload_n hx hb dX11_room_16 rfl (lv_at hl 0 rfl) ?_
      refine lv_iload_n hx hb dX11_room_17 rfl (lv_at hl 2 rfl) ?_
      obtain ⟨t2, hq, h⟩ := z_bd h
      refine z_cvi (As := [.int x2]) C0 hml hl.1 hW hS (c_X11_hasRoom l D A b x2 u hq) mv_X11_127 rfl ⟨Nat.le_of_ble_eq_true rfl, Nat.le_of_ble_eq_true rfl⟩ rfl rfl (Nat.le_of_ble_eq_true rfl) dX11_room_18 (fun H locs hW hS => ?_)
      clear hq
      refine z_ifeqZ C0 (tgt := 30) dX11_room_21 (by decide) (fun hc => ?_) (fun hc => ?_)
      · have h := z_ff h hc
        clear hc
        refine lv_iconst (v := (0 : Int32)) hx hb dX11_room_30 (by decide) ?_
        refine lv_ior hx hb dX11_room_31 ?_
        refine lv_topi (fun z3 e1 => ?_)
        have h := z_ly h e1
        clear e1
        refine lv_istore_n (lv' := [(1, .int z3), (0, .ref (b + 0)), (2, .int x2)]) hx hb dX11_room_32 rfl hl (by decide) rfl (fun ls hl => ?_)
        refine lv_iinc (v := x2 + (1 : Int32)) (lv' := [(2, .int (x2 + (1 : Int32))), (1, .int z3), (0, .ref (b + 0))]) hx hb dX11_room_33 hl (k := 2) rfl rfl (by decide) rfl (fun ls hl => ?_)
        refine lv_goto (tgt := 9) hx hb dX11_room_36 (by decide) ?_
        exact ih _ _ _ _ _ _ h hW hS (lv_sub hl [2, 1, 0] rfl)
      · have h := z_t h hc
        clear hc
        refine lv_iconst (v := (1 : Int32)) hx hb dX11_room_24 (by decide) ?_
        refine lv_iload_n hx hb dX11_room_25 rfl (lv_at hl 2 rfl) ?_
        refine lv_ishl hx hb dX11_room_26 ?_
        refine lv_goto (tgt := 31) hx hb dX11_room_27 (by decide) ?_
        refine lv_ior hx hb dX11_room_31 ?_
        refine lv_topi (fun z4 e1 => ?_)
        have h := z_ly h e1
        clear e1
        refine lv_istore_n (lv' := [(1, .int z4), (0, .ref (b + 0)), (2, .int x2)]) hx hb dX11_room_32 rfl hl (by decide) rfl (fun ls hl => ?_)
        refine lv_iinc (v := x2 + (1 : Int32)) (lv' := [(2, .int (x2 + (1 : Int32))), (1, .int z4), (0, .ref (b + 0))]) hx hb dX11_room_33 hl (k := 2) rfl rfl (by decide) rfl (fun ls hl => ?_)
        refine lv_goto (tgt := 9) hx hb dX11_room_36 (by decide) ?_
        exact ih _ _ _ _ _ _ h hW hS (lv_sub hl [2, 1, 0] rfl)
theorem f_X11_room_e  (u : zU) : f_X11_room  u = z_let (z_up u 0 0 (0 : Int32)) (fun u1 => f_X11_room_9 5000 (0 : Int32) (0 : Int32) u1) := rfl
set_option maxRecDepth 100000 in
set_option maxHeartbeats 4000000 in
theorem c_X11_room (l : Launch) (D : zD) (A : Nat → Prop) (b : Nat)  (u : zU) {v : Int32} {u' : zU} (h : f_X11_room  u = some (v, u')) : z_M l D A b gM yX11_room cX11_room 3 (some .int) 3 66 [.ref (b + 0)] u (some (.int v)) u' := by
  refine z_enter (by decide) (Nat.le_of_ble_eq_true rfl) ?_
  intro p e s m below meth c ls C0 hr hml hlk hW hS hl
  have hl : lv_has ls 3 [(0, .ref (b + 0))] := hl
  have hx := C0.1
  have hb := C0.2.1
  rw [f_X11_room_e] at h
  refine lv_aload_n hx hb dX11_room_0 rfl (lv_at hl 0 rfl) ?_
  refine lv_iconst (v := (0 : Int32)) hx hb dX11_room_1 (by decide) ?_
  refine z_puti C0 hW hS fl_X11_42 rfl rfl rfl rfl dX11_room_2 (fun H locs u1 e1 hW hS => ?_)
  have h := z_ly h e1
  clear e1
  refine lv_iconst (v := (0 : Int32)) hx hb dX11_room_5 (by decide) ?_
  refine lv_istore_n (lv' := [(1, .int (0 : Int32)), (0, .ref (b + 0))]) hx hb dX11_room_6 rfl hl (by decide) rfl (fun ls hl => ?_)
  refine lv_iconst (v := (0 : Int32)) hx hb dX11_room_7 (by decide) ?_
  refine lv_istore_n (lv' := [(2, .int (0 : Int32)), (1, .int (0 : Int32)), (0, .ref (b + 0))]) hx hb dX11_room_8 rfl hl (by decide) rfl (fun ls hl => ?_)
  exact l_X11_room_9 C0 hr hml hlk 5000 _ _ _ _ _ _ h hW hS (lv_sub hl [2, 1, 0] rfl)
def f_X11_pairs_23 (K : Int32 → Int32 → zU → Option (Int32 × zU)) : Nat → Int32 → Int32 → Int32 → zU → Option (Int32 × zU)
  | 0, _, _, _, _ => none
  | n + 1, x1, x2, x3, u =>
    if (u 1 3) ≤ x3 then (K x1 (x2 + (1 : Int32)) u) else ((f_X11_waits x2 u).bind (fun t3 => if t3 = true then (z_let (x1 + (0 : Int32)) (fun z4 => f_X11_pairs_23 K n z4 x2 (x3 + (1 : Int32)) u)) else ((f_X11_of x2 (0 : Int32) u).bind (fun r5 => (f_X11_of x3 (0 : Int32) u).bind (fun r6 => if r5 = r6 then ((f_X11_of x2 (3 : Int32) u).bind (fun r8 => (f_X11_of x3 (3 : Int32) u).bind (fun r9 => if r8 = r9 then (z_let (x1 + (1 : Int32)) (fun z11 => f_X11_pairs_23 K n z11 x2 (x3 + (1 : Int32)) u)) else (z_let (x1 + (0 : Int32)) (fun z10 => f_X11_pairs_23 K n z10 x2 (x3 + (1 : Int32)) u))))) else (z_let (x1 + (0 : Int32)) (fun z7 => f_X11_pairs_23 K n z7 x2 (x3 + (1 : Int32)) u)))))))
theorem f_X11_pairs_23_s (K : Int32 → Int32 → zU → Option (Int32 × zU)) (n : Nat) (x1 : Int32) (x2 : Int32) (x3 : Int32) (u : zU) : f_X11_pairs_23 K (n + 1) x1 x2 x3 u = if (u 1 3) ≤ x3 then (K x1 (x2 + (1 : Int32)) u) else ((f_X11_waits x2 u).bind (fun t3 => if t3 = true then (z_let (x1 + (0 : Int32)) (fun z4 => f_X11_pairs_23 K n z4 x2 (x3 + (1 : Int32)) u)) else ((f_X11_of x2 (0 : Int32) u).bind (fun r5 => (f_X11_of x3 (0 : Int32) u).bind (fun r6 => if r5 = r6 then ((f_X11_of x2 (3 : Int32) u).bind (fun r8 => (f_X11_of x3 (3 : Int32) u).bind (fun r9 => if r8 = r9 then (z_let (x1 + (1 : Int32)) (fun z11 => f_X11_pairs_23 K n z11 x2 (x3 + (1 : Int32)) u)) else (z_let (x1 + (0 : Int32)) (fun z10 => f_X11_pairs_23 K n z10 x2 (x3 + (1 : Int32)) u))))) else (z_let (x1 + (0 : Int32)) (fun z7 => f_X11_pairs_23 K n z7 x2 (x3 + (1 : Int32)) u))))))) := rfl
def f_X11_pairs_9 : Nat → Int32 → Int32 → zU → Option (Int32 × zU)
  | 0, _, _, _ => none
  | n + 1, x1, x2, u =>
    if (u 1 3) ≤ x2 then (some (x1, u)) else (z_let (x2 + (1 : Int32)) (fun z2 => f_X11_pairs_23 (fun k1 k2 u => f_X11_pairs_9 n k1 k2 u) 5000 x1 x2 z2 u))
theorem f_X11_pairs_9_s (n : Nat) (x1 : Int32) (x2 : Int32) (u : zU) : f_X11_pairs_9 (n + 1) x1 x2 u = if (u 1 3) ≤ x2 then (some (x1, u)) else (z_let (x2 + (1 : Int32)) (fun z2 => f_X11_pairs_23 (fun k1 k2 u => f_X11_pairs_9 n k1 k2 u) 5000 x1 x2 z2 u)) := rfl
def f_X11_pairs  (u : zU) : Option (Int32 × zU) :=
  z_let (z_up u 0 0 (0 : Int32)) (fun u1 => f_X11_pairs_9 5000 (0 : Int32) (0 : Int32) u1)
set_option maxRecDepth 100000 in
set_option maxHeartbeats 4000000 in
theorem l_X11_pairs_23 {l : Launch} {D : zD} {A : Nat → Prop} {b : Nat} {p : Program} {e : Env} {s : State} {m : MethodId} {args : Array Value} {below : List Frame} {meth : Method} {c : Code} {v : Int32} {u' : zU} {K : Int32 → Int32 → zU → Option (Int32 × zU)} (C0 : z_C p c cX11_pairs s m args yX11_pairs.cls D) (hr : meth.sig.returnType = (some .int)) (hml : c.maxLocals = 4) (hlk : meth.locks = false) (hK : ∀ (x1 : Int32) (x2 : Int32) (u : zU) (H : Heap) (locs : List Loc) (ls : Array Slot), K x1 x2 u = some (v, u') → z_W D A b gM u H → va_S A s.heap H locs → lv_has ls 4 [(0, .ref (b + 0)), (1, .int x1), (2, .int x2)] → W p l e { frames := 2, cells := 0, slots := 0, locals := 43 } s m args below meth c H locs 0 0 (z_End D A b gM below args s (some (.int v)) u') (F0 m 9 ls [])) : ∀ (n : Nat) (x1 : Int32) (x2 : Int32) (x3 : Int32) (u : zU) (H : Heap) (locs : List Loc) (ls : Array Slot), f_X11_pairs_23 K n x1 x2 x3 u = some (v, u') → z_W D A b gM u H → va_S A s.heap H locs → lv_has ls 4 [(0, .ref (b + 0)), (1, .int x1), (2, .int x2), (3, .int x3)] → W p l e { frames := 2, cells := 0, slots := 0, locals := 43 } s m args below meth c H locs 0 0 (z_End D A b gM below args s (some (.int v)) u') (F0 m 23 ls []) := by
  have hx := C0.1
  have hb := C0.2.1
  intro n
  induction n with
  | zero => intro x1 x2 x3 u H locs ls h hW hS hl; cases h
  | succ n ih =>
    intro x1 x2 x3 u H locs ls h hW hS hl
    rw [f_X11_pairs_23_s] at h
    refine lv_iload_n hx hb dX11_pairs_23 rfl (lv_at hl 3 rfl) ?_
    refine lv_aload_n hx hb dX11_pairs_24 rfl (lv_at hl 0 rfl) ?_
    refine z_getr (o := 1) C0 hW fl_X11_7 rfl rfl rfl dX11_pairs_25 ?_
    refine lv_iconst (v := (3 : Int32)) hx hb dX11_pairs_28 (by decide) ?_
    refine z_iald (k := 3) C0 hW rfl rfl (by decide) (by decide) dX11_pairs_29 ?_
    refine lv_icmp_ge (tgt := 85) hx hb dX11_pairs_30 (by decide) (fun hc => ?_) (fun hc => ?_)
    · have h := z_t h hc
      clear hc
      refine lv_iinc (v := x2 + (1 : Int32)) (lv' := [(2, .int (x2 + (1 : Int32))), (0, .ref (b + 0)), (1, .int x1), (3, .int x3)]) hx hb dX11_pairs_85 hl (k := 2) rfl rfl (by decide) rfl (fun ls hl => ?_)
      refine lv_goto (tgt := 9) hx hb dX11_pairs_88 (by decide) ?_
      exact hK _ _ _ _ _ _ h hW hS (lv_sub hl [1, 2, 0] rfl)
    · have h := z_f h hc
      clear hc
      refine lv_iload_n hx hb dX11_pairs_33 rfl (lv_at hl 1 rfl) ?_
      refine lv_aload_n hx hb dX11_pairs_34 rfl (lv_at hl 0 rfl) ?_
      refine lv_iload_n hx hb dX11_pairs_35 rfl (lv_at hl 2 rfl) ?_
      obtain ⟨t3, hq, h⟩ := z_bd h
      refine z_cvi (As := [.int x2]) C0 hml hl.1 hW hS (c_X11_waits l D A b x2 u hq) mv_X11_255 rfl ⟨Nat.le_of_ble_eq_true rfl, Nat.le_of_ble_eq_true rfl⟩ rfl rfl (Nat.le_of_ble_eq_true rfl) dX11_pairs_36 (fun H locs hW hS => ?_)
      clear hq
      refine z_ifneZ C0 (tgt := 76) dX11_pairs_39 (by decide) (fun hc => ?_) (fun hc => ?_)
      · have h := z_t h hc
        clear hc
        refine lv_iconst (v := (0 : Int32)) hx hb dX11_pairs_76 (by decide) ?_
        refine lv_iadd hx hb dX11_pairs_77 ?_
        refine lv_topi (fun z4 e1 => ?_)
        have h := z_ly h e1
        clear e1
        refine lv_istore_n (lv' := [(1, .int z4), (0, .ref (b + 0)), (2, .int x2), (3, .int x3)]) hx hb dX11_pairs_78 rfl hl (by decide) rfl (fun ls hl => ?_)
        refine lv_iinc (v := x3 + (1 : Int32)) (lv' := [(3, .int (x3 + (1 : Int32))), (1, .int z4), (0, .ref (b + 0)), (2, .int x2)]) hx hb dX11_pairs_79 hl (k := 3) rfl rfl (by decide) rfl (fun ls hl => ?_)
        refine lv_goto (tgt := 23) hx hb dX11_pairs_82 (by decide) ?_
        exact ih _ _ _ _ _ _ _ h hW hS (lv_sub hl [2, 1, 3, 0] rfl)
      · have h := z_ff h hc
        clear hc
        refine lv_aload_n hx hb dX11_pairs_42 rfl (lv_at hl 0 rfl) ?_
        refine lv_iload_n hx hb dX11_pairs_43 rfl (lv_at hl 2 rfl) ?_
        refine lv_iconst (v := (0 : Int32)) hx hb dX11_pairs_44 (by decide) ?_
        obtain ⟨r5, hq, h⟩ := z_bd h
        refine z_cvi (As := [.int x2, .int (0 : Int32)]) C0 hml hl.1 hW hS (c_X11_of l D A b x2 (0 : Int32) u hq) mv_X11_49 rfl ⟨Nat.le_of_ble_eq_true rfl, Nat.le_of_ble_eq_true rfl⟩ rfl rfl (Nat.le_of_ble_eq_true rfl) dX11_pairs_45 (fun H locs hW hS => ?_)
        clear hq
        refine lv_aload_n hx hb dX11_pairs_48 rfl (lv_at hl 0 rfl) ?_
        refine lv_iload_n hx hb dX11_pairs_49 rfl (lv_at hl 3 rfl) ?_
        refine lv_iconst (v := (0 : Int32)) hx hb dX11_pairs_50 (by decide) ?_
        obtain ⟨r6, hq, h⟩ := z_bd h
        refine z_cvi (As := [.int x3, .int (0 : Int32)]) C0 hml hl.1 hW hS (c_X11_of l D A b x3 (0 : Int32) u hq) mv_X11_49 rfl ⟨Nat.le_of_ble_eq_true rfl, Nat.le_of_ble_eq_true rfl⟩ rfl rfl (Nat.le_of_ble_eq_true rfl) dX11_pairs_51 (fun H locs hW hS => ?_)
        clear hq
        refine lv_icmp_ne (tgt := 76) hx hb dX11_pairs_54 (by decide) (fun hc => ?_) (fun hc => ?_)
        · have h := z_f h hc
          clear hc
          refine lv_iconst (v := (0 : Int32)) hx hb dX11_pairs_76 (by decide) ?_
          refine lv_iadd hx hb dX11_pairs_77 ?_
          refine lv_topi (fun z7 e1 => ?_)
          have h := z_ly h e1
          clear e1
          refine lv_istore_n (lv' := [(1, .int z7), (0, .ref (b + 0)), (2, .int x2), (3, .int x3)]) hx hb dX11_pairs_78 rfl hl (by decide) rfl (fun ls hl => ?_)
          refine lv_iinc (v := x3 + (1 : Int32)) (lv' := [(3, .int (x3 + (1 : Int32))), (1, .int z7), (0, .ref (b + 0)), (2, .int x2)]) hx hb dX11_pairs_79 hl (k := 3) rfl rfl (by decide) rfl (fun ls hl => ?_)
          refine lv_goto (tgt := 23) hx hb dX11_pairs_82 (by decide) ?_
          exact ih _ _ _ _ _ _ _ h hW hS (lv_sub hl [2, 1, 3, 0] rfl)
        · have h := z_t h hc
          clear hc
          refine lv_aload_n hx hb dX11_pairs_57 rfl (lv_at hl 0 rfl) ?_
          refine lv_iload_n hx hb dX11_pairs_58 rfl (lv_at hl 2 rfl) ?_
          refine lv_iconst (v := (3 : Int32)) hx hb dX11_pairs_59 (by decide) ?_
          obtain ⟨r8, hq, h⟩ := z_bd h
          refine z_cvi (As := [.int x2, .int (3 : Int32)]) C0 hml hl.1 hW hS (c_X11_of l D A b x2 (3 : Int32) u hq) mv_X11_49 rfl ⟨Nat.le_of_ble_eq_true rfl, Nat.le_of_ble_eq_true rfl⟩ rfl rfl (Nat.le_of_ble_eq_true rfl) dX11_pairs_60 (fun H locs hW hS => ?_)
          clear hq
          refine lv_aload_n hx hb dX11_pairs_63 rfl (lv_at hl 0 rfl) ?_
          refine lv_iload_n hx hb dX11_pairs_64 rfl (lv_at hl 3 rfl) ?_
          refine lv_iconst (v := (3 : Int32)) hx hb dX11_pairs_65 (by decide) ?_
          obtain ⟨r9, hq, h⟩ := z_bd h
          refine z_cvi (As := [.int x3, .int (3 : Int32)]) C0 hml hl.1 hW hS (c_X11_of l D A b x3 (3 : Int32) u hq) mv_X11_49 rfl ⟨Nat.le_of_ble_eq_true rfl, Nat.le_of_ble_eq_true rfl⟩ rfl rfl (Nat.le_of_ble_eq_true rfl) dX11_pairs_66 (fun H locs hW hS => ?_)
          clear hq
          refine lv_icmp_ne (tgt := 76) hx hb dX11_pairs_69 (by decide) (fun hc => ?_) (fun hc => ?_)
          · have h := z_f h hc
            clear hc
            refine lv_iconst (v := (0 : Int32)) hx hb dX11_pairs_76 (by decide) ?_
            refine lv_iadd hx hb dX11_pairs_77 ?_
            refine lv_topi (fun z10 e1 => ?_)
            have h := z_ly h e1
            clear e1
            refine lv_istore_n (lv' := [(1, .int z10), (0, .ref (b + 0)), (2, .int x2), (3, .int x3)]) hx hb dX11_pairs_78 rfl hl (by decide) rfl (fun ls hl => ?_)
            refine lv_iinc (v := x3 + (1 : Int32)) (lv' := [(3, .int (x3 + (1 : Int32))), (1, .int z10), (0, .ref (b + 0)), (2, .int x2)]) hx hb dX11_pairs_79 hl (k := 3) rfl rfl (by decide) rfl (fun ls hl => ?_)
            refine lv_goto (tgt := 23) hx hb dX11_pairs_82 (by decide) ?_
            exact ih _ _ _ _ _ _ _ h hW hS (lv_sub hl [2, 1, 3, 0] rfl)
          · have h := z_t h hc
            clear hc
            refine lv_iconst (v := (1 : Int32)) hx hb dX11_pairs_72 (by decide) ?_
            refine lv_goto (tgt := 77) hx hb dX11_pairs_73 (by decide) ?_
            refine lv_iadd hx hb dX11_pairs_77 ?_
            refine lv_topi (fun z11 e1 => ?_)
            have h := z_ly h e1
            clear e1
            refine lv_istore_n (lv' := [(1, .int z11), (0, .ref (b + 0)), (2, .int x2), (3, .int x3)]) hx hb dX11_pairs_78 rfl hl (by decide) rfl (fun ls hl => ?_)
            refine lv_iinc (v := x3 + (1 : Int32)) (lv' := [(3, .int (x3 + (1 : Int32))), (1, .int z11), (0, .ref (b + 0)), (2, .int x2)]) hx hb dX11_pairs_79 hl (k := 3) rfl rfl (by decide) rfl (fun ls hl => ?_)
            refine lv_goto (tgt := 23) hx hb dX11_pairs_82 (by decide) ?_
            exact ih _ _ _ _ _ _ _ h hW hS (lv_sub hl [2, 1, 3, 0] rfl)
set_option maxRecDepth 100000 in
set_option maxHeartbeats 4000000 in
theorem l_X11_pairs_9 {l : Launch} {D : zD} {A : Nat → Prop} {b : Nat} {p : Program} {e : Env} {s : State} {m : MethodId} {args : Array Value} {below : List Frame} {meth : Method} {c : Code} {v : Int32} {u' : zU} (C0 : z_C p c cX11_pairs s m args yX11_pairs.cls D) (hr : meth.sig.returnType = (some .int)) (hml : c.maxLocals = 4) (hlk : meth.locks = false) : ∀ (n : Nat) (x1 : Int32) (x2 : Int32) (u : zU) (H : Heap) (locs : List Loc) (ls : Array Slot), f_X11_pairs_9 n x1 x2 u = some (v, u') → z_W D A b gM u H → va_S A s.heap H locs → lv_has ls 4 [(0, .ref (b + 0)), (1, .int x1), (2, .int x2)] → W p l e { frames := 2, cells := 0, slots := 0, locals := 43 } s m args below meth c H locs 0 0 (z_End D A b gM below args s (some (.int v)) u') (F0 m 9 ls []) := by
  have hx := C0.1
  have hb := C0.2.1
  intro n
  induction n with
  | zero => intro x1 x2 u H locs ls h hW hS hl; cases h
  | succ n ih =>
    intro x1 x2 u H locs ls h hW hS hl
    rw [f_X11_pairs_9_s] at h
    refine lv_iload_n hx hb dX11_pairs_9 rfl (lv_at hl 2 rfl) ?_
    refine lv_aload_n hx hb dX11_pairs_10 rfl (lv_at hl 0 rfl) ?_
    refine z_getr (o := 1) C0 hW fl_X11_7 rfl rfl rfl dX11_pairs_11 ?_
    refine lv_iconst (v := (3 : Int32)) hx hb dX11_pairs_14 (by decide) ?_
    refine z_iald (k := 3) C0 hW rfl rfl (by decide) (by decide) dX11_pairs_15 ?_
    refine lv_icmp_ge (tgt := 91) hx hb dX11_pairs_16 (by decide) (fun hc => ?_) (fun hc => ?_)
    · have h := z_t h hc
      clear hc
      refine lv_iload_n hx hb dX11_pairs_91 rfl (lv_at hl 1 rfl) ?_
      cases h
      exact z_iret C0 hr hlk hW hS dX11_pairs_92
    · have h := z_f h hc
      clear hc
      refine lv_iload_n hx hb dX11_pairs_19 rfl (lv_at hl 2 rfl) ?_
      refine lv_iconst (v := (1 : Int32)) hx hb dX11_pairs_20 (by decide) ?_
      refine lv_iadd hx hb dX11_pairs_21 ?_
      refine lv_topi (fun z2 e1 => ?_)
      have h := z_ly h e1
      clear e1
      refine lv_istore_n (lv' := [(3, .int z2), (0, .ref (b + 0)), (1, .int x1), (2, .int x2)]) hx hb dX11_pairs_22 rfl hl (by decide) rfl (fun ls hl => ?_)
      exact l_X11_pairs_23 C0 hr hml hlk (fun q0 q1 q2 q3 q4 q5 h hW hS hl => ih q0 q1 q2 q3 q4 q5 h hW hS hl) 5000 _ _ _ _ _ _ _ h hW hS (lv_sub hl [1, 2, 3, 0] rfl)
theorem f_X11_pairs_e  (u : zU) : f_X11_pairs  u = z_let (z_up u 0 0 (0 : Int32)) (fun u1 => f_X11_pairs_9 5000 (0 : Int32) (0 : Int32) u1) := rfl
set_option maxRecDepth 100000 in
set_option maxHeartbeats 4000000 in
theorem c_X11_pairs (l : Launch) (D : zD) (A : Nat → Prop) (b : Nat)  (u : zU) {v : Int32} {u' : zU} (h : f_X11_pairs  u = some (v, u')) : z_M l D A b gM yX11_pairs cX11_pairs 4 (some .int) 2 43 [.ref (b + 0)] u (some (.int v)) u' := by
  refine z_enter (by decide) (Nat.le_of_ble_eq_true rfl) ?_
  intro p e s m below meth c ls C0 hr hml hlk hW hS hl
  have hl : lv_has ls 4 [(0, .ref (b + 0))] := hl
  have hx := C0.1
  have hb := C0.2.1
  rw [f_X11_pairs_e] at h
  refine lv_aload_n hx hb dX11_pairs_0 rfl (lv_at hl 0 rfl) ?_
  refine lv_iconst (v := (0 : Int32)) hx hb dX11_pairs_1 (by decide) ?_
  refine z_puti C0 hW hS fl_X11_42 rfl rfl rfl rfl dX11_pairs_2 (fun H locs u1 e1 hW hS => ?_)
  have h := z_ly h e1
  clear e1
  refine lv_iconst (v := (0 : Int32)) hx hb dX11_pairs_5 (by decide) ?_
  refine lv_istore_n (lv' := [(1, .int (0 : Int32)), (0, .ref (b + 0))]) hx hb dX11_pairs_6 rfl hl (by decide) rfl (fun ls hl => ?_)
  refine lv_iconst (v := (0 : Int32)) hx hb dX11_pairs_7 (by decide) ?_
  refine lv_istore_n (lv' := [(2, .int (0 : Int32)), (1, .int (0 : Int32)), (0, .ref (b + 0))]) hx hb dX11_pairs_8 rfl hl (by decide) rfl (fun ls hl => ?_)
  exact l_X11_pairs_9 C0 hr hml hlk 5000 _ _ _ _ _ _ h hW hS (lv_sub hl [2, 1, 0] rfl)
def f_X11_weakest_9 : Nat → Int32 → Int32 → zU → Option (Int32 × zU)
  | 0, _, _, _ => none
  | n + 1, x1, x2, u =>
    if (8 : Int32) ≤ x2 then (some (x1, u)) else (if z_in ((17 : Int32) + x2) 705 = true then (z_let (u 1 ((17 : Int32) + x2).toNatClampNeg) (fun z2 => if z_in ((17 : Int32) + x1) 705 = true then (z_let (u 1 ((17 : Int32) + x1).toNatClampNeg) (fun z3 => if z3 ≤ z2 then (f_X11_weakest_9 n x1 (x2 + (1 : Int32)) u) else (f_X11_weakest_9 n x2 (x2 + (1 : Int32)) u))) else none)) else none)
theorem f_X11_weakest_9_s (n : Nat) (x1 : Int32) (x2 : Int32) (u : zU) : f_X11_weakest_9 (n + 1) x1 x2 u = if (8 : Int32) ≤ x2 then (some (x1, u)) else (if z_in ((17 : Int32) + x2) 705 = true then (z_let (u 1 ((17 : Int32) + x2).toNatClampNeg) (fun z2 => if z_in ((17 : Int32) + x1) 705 = true then (z_let (u 1 ((17 : Int32) + x1).toNatClampNeg) (fun z3 => if z3 ≤ z2 then (f_X11_weakest_9 n x1 (x2 + (1 : Int32)) u) else (f_X11_weakest_9 n x2 (x2 + (1 : Int32)) u))) else none)) else none) := rfl
def f_X11_weakest  (u : zU) : Option (Int32 × zU) :=
  z_let (z_up u 0 0 (0 : Int32)) (fun u1 => f_X11_weakest_9 5000 (0 : Int32) (1 : Int32) u1)
set_option maxRecDepth 100000 in
set_option maxHeartbeats 4000000 in
theorem l_X11_weakest_9 {l : Launch} {D : zD} {A : Nat → Prop} {b : Nat} {p : Program} {e : Env} {s : State} {m : MethodId} {args : Array Value} {below : List Frame} {meth : Method} {c : Code} {v : Int32} {u' : zU} (C0 : z_C p c cX11_weakest s m args yX11_weakest.cls D) (hr : meth.sig.returnType = (some .int)) (hml : c.maxLocals = 3) (hlk : meth.locks = false) : ∀ (n : Nat) (x1 : Int32) (x2 : Int32) (u : zU) (H : Heap) (locs : List Loc) (ls : Array Slot), f_X11_weakest_9 n x1 x2 u = some (v, u') → z_W D A b gM u H → va_S A s.heap H locs → lv_has ls 3 [(0, .ref (b + 0)), (1, .int x1), (2, .int x2)] → W p l e { frames := 0, cells := 0, slots := 0, locals := 0 } s m args below meth c H locs 0 0 (z_End D A b gM below args s (some (.int v)) u') (F0 m 9 ls []) := by
  have hx := C0.1
  have hb := C0.2.1
  intro n
  induction n with
  | zero => intro x1 x2 u H locs ls h hW hS hl; cases h
  | succ n ih =>
    intro x1 x2 u H locs ls h hW hS hl
    rw [f_X11_weakest_9_s] at h
    refine lv_iload_n hx hb dX11_weakest_9 rfl (lv_at hl 2 rfl) ?_
    refine lv_bipush (v := (8 : Int32)) hx hb dX11_weakest_10 (by decide) ?_
    refine lv_icmp_ge (tgt := 44) hx hb dX11_weakest_12 (by decide) (fun hc => ?_) (fun hc => ?_)
    · have h := z_t h hc
      clear hc
      refine lv_iload_n hx hb dX11_weakest_44 rfl (lv_at hl 1 rfl) ?_
      cases h
      exact z_iret C0 hr hlk hW hS dX11_weakest_45
    · have h := z_f h hc
      clear hc
      refine lv_aload_n hx hb dX11_weakest_15 rfl (lv_at hl 0 rfl) ?_
      refine z_getr (o := 1) C0 hW fl_X11_7 rfl rfl rfl dX11_weakest_16 ?_
      refine lv_bipush (v := (17 : Int32)) hx hb dX11_weakest_19 (by decide) ?_
      refine lv_iload_n hx hb dX11_weakest_21 rfl (lv_at hl 2 rfl) ?_
      refine lv_iadd hx hb dX11_weakest_22 ?_
      obtain ⟨hin, h⟩ := z_if h
      refine z_iald C0 hW rfl rfl hin rfl dX11_weakest_23 ?_
      clear hin
      refine lv_topi (fun z2 e1 => ?_)
      have h := z_ly h e1
      clear e1
      refine lv_aload_n hx hb dX11_weakest_24 rfl (lv_at hl 0 rfl) ?_
      refine z_getr (o := 1) C0 hW fl_X11_7 rfl rfl rfl dX11_weakest_25 ?_
      refine lv_bipush (v := (17 : Int32)) hx hb dX11_weakest_28 (by decide) ?_
      refine lv_iload_n hx hb dX11_weakest_30 rfl (lv_at hl 1 rfl) ?_
      refine lv_iadd hx hb dX11_weakest_31 ?_
      obtain ⟨hin, h⟩ := z_if h
      refine z_iald C0 hW rfl rfl hin rfl dX11_weakest_32 ?_
      clear hin
      refine lv_topi (fun z3 e1 => ?_)
      have h := z_ly h e1
      clear e1
      refine lv_icmp_ge (tgt := 38) hx hb dX11_weakest_33 (by decide) (fun hc => ?_) (fun hc => ?_)
      · have h := z_t h hc
        clear hc
        refine lv_iinc (v := x2 + (1 : Int32)) (lv' := [(2, .int (x2 + (1 : Int32))), (0, .ref (b + 0)), (1, .int x1)]) hx hb dX11_weakest_38 hl (k := 2) rfl rfl (by decide) rfl (fun ls hl => ?_)
        refine lv_goto (tgt := 9) hx hb dX11_weakest_41 (by decide) ?_
        exact ih _ _ _ _ _ _ h hW hS (lv_sub hl [1, 2, 0] rfl)
      · have h := z_f h hc
        clear hc
        refine lv_iload_n hx hb dX11_weakest_36 rfl (lv_at hl 2 rfl) ?_
        refine lv_istore_n (lv' := [(1, .int x2), (0, .ref (b + 0)), (2, .int x2)]) hx hb dX11_weakest_37 rfl hl (by decide) rfl (fun ls hl => ?_)
        refine lv_iinc (v := x2 + (1 : Int32)) (lv' := [(2, .int (x2 + (1 : Int32))), (1, .int x2), (0, .ref (b + 0))]) hx hb dX11_weakest_38 hl (k := 2) rfl rfl (by decide) rfl (fun ls hl => ?_)
        refine lv_goto (tgt := 9) hx hb dX11_weakest_41 (by decide) ?_
        exact ih _ _ _ _ _ _ h hW hS (lv_sub hl [2, 1, 0] rfl)
theorem f_X11_weakest_e  (u : zU) : f_X11_weakest  u = z_let (z_up u 0 0 (0 : Int32)) (fun u1 => f_X11_weakest_9 5000 (0 : Int32) (1 : Int32) u1) := rfl
set_option maxRecDepth 100000 in
set_option maxHeartbeats 4000000 in
theorem c_X11_weakest (l : Launch) (D : zD) (A : Nat → Prop) (b : Nat)  (u : zU) {v : Int32} {u' : zU} (h : f_X11_weakest  u = some (v, u')) : z_M l D A b gM yX11_weakest cX11_weakest 3 (some .int) 0 0 [.ref (b + 0)] u (some (.int v)) u' := by
  refine z_enter (by decide) (Nat.le_of_ble_eq_true rfl) ?_
  intro p e s m below meth c ls C0 hr hml hlk hW hS hl
  have hl : lv_has ls 3 [(0, .ref (b + 0))] := hl
  have hx := C0.1
  have hb := C0.2.1
  rw [f_X11_weakest_e] at h
  refine lv_aload_n hx hb dX11_weakest_0 rfl (lv_at hl 0 rfl) ?_
  refine lv_iconst (v := (0 : Int32)) hx hb dX11_weakest_1 (by decide) ?_
  refine z_puti C0 hW hS fl_X11_42 rfl rfl rfl rfl dX11_weakest_2 (fun H locs u1 e1 hW hS => ?_)
  have h := z_ly h e1
  clear e1
  refine lv_iconst (v := (0 : Int32)) hx hb dX11_weakest_5 (by decide) ?_
  refine lv_istore_n (lv' := [(1, .int (0 : Int32)), (0, .ref (b + 0))]) hx hb dX11_weakest_6 rfl hl (by decide) rfl (fun ls hl => ?_)
  refine lv_iconst (v := (1 : Int32)) hx hb dX11_weakest_7 (by decide) ?_
  refine lv_istore_n (lv' := [(2, .int (1 : Int32)), (1, .int (0 : Int32)), (0, .ref (b + 0))]) hx hb dX11_weakest_8 rfl hl (by decide) rfl (fun ls hl => ?_)
  exact l_X11_weakest_9 C0 hr hml hlk 5000 _ _ _ _ _ _ h hW hS (lv_sub hl [2, 1, 0] rfl)
def f_X11_logged (a1 : Int32) (a2 : Int32) (u : zU) : Option (Int32) :=
  if z_in (((65 : Int32) + ((4 : Int32) * a1)) + a2) 705 = true then (z_let (u 1 (((65 : Int32) + ((4 : Int32) * a1)) + a2).toNatClampNeg) (fun z1 => some z1)) else none
theorem f_X11_logged_e (a1 : Int32) (a2 : Int32) (u : zU) : f_X11_logged a1 a2 u = if z_in (((65 : Int32) + ((4 : Int32) * a1)) + a2) 705 = true then (z_let (u 1 (((65 : Int32) + ((4 : Int32) * a1)) + a2).toNatClampNeg) (fun z1 => some z1)) else none := rfl
set_option maxRecDepth 100000 in
set_option maxHeartbeats 4000000 in
theorem c_X11_logged (l : Launch) (D : zD) (A : Nat → Prop) (b : Nat) (a1 : Int32) (a2 : Int32) (u : zU) {v : Int32} (h : f_X11_logged a1 a2 u = some v) : z_M l D A b gM yX11_logged cX11_logged 3 (some .int) 0 0 [.ref (b + 0), .int a1, .int a2] u (some (.int v)) u := by
  refine z_enter (by decide) (Nat.le_of_ble_eq_true rfl) ?_
  intro p e s m below meth c ls C0 hr hml hlk hW hS hl
  have hl : lv_has ls 3 [(0, .ref (b + 0)), (1, .int a1), (2, .int a2)] := hl
  have hx := C0.1
  have hb := C0.2.1
  rw [f_X11_logged_e] at h
  refine lv_aload_n hx hb dX11_logged_0 rfl (lv_at hl 0 rfl) ?_
  refine z_getr (o := 1) C0 hW fl_X11_7 rfl rfl rfl dX11_logged_1 ?_
  refine lv_bipush (v := (65 : Int32)) hx hb dX11_logged_4 (by decide) ?_
  refine lv_iconst (v := (4 : Int32)) hx hb dX11_logged_6 (by decide) ?_
  refine lv_iload_n hx hb dX11_logged_7 rfl (lv_at hl 1 rfl) ?_
  refine lv_imul hx hb dX11_logged_8 ?_
  refine lv_iadd hx hb dX11_logged_9 ?_
  refine lv_iload_n hx hb dX11_logged_10 rfl (lv_at hl 2 rfl) ?_
  refine lv_iadd hx hb dX11_logged_11 ?_
  obtain ⟨hin, h⟩ := z_if h
  refine z_iald C0 hW rfl rfl hin rfl dX11_logged_12 ?_
  clear hin
  refine lv_topi (fun z1 e1 => ?_)
  have h := z_ly h e1
  clear e1
  cases h
  exact z_iret C0 hr hlk hW hS dX11_logged_13
def f_X11_led_42 : Nat → Int32 → Bool → Int32 → Int32 → Int32 → zU → Option (Int32 × zU)
  | 0, _, _, _, _, _, _ => none
  | n + 1, x1, x2, x3, x4, x5, u =>
    if x5 < 0 then (if x2 = true then (some (x4, u)) else (some (x3, u))) else ((f_X11_logged x5 (2 : Int32) u).bind (fun r4 => if r4 = x1 then ((f_X11_logged x5 (0 : Int32) u).bind (fun r5 => f_X11_led_42 n x1 x2 (x3 + (1 : Int32)) r5 (x5 + (-1 : Int32)) u)) else (f_X11_led_42 n x1 x2 x3 x4 (x5 + (-1 : Int32)) u)))
theorem f_X11_led_42_s (n : Nat) (x1 : Int32) (x2 : Bool) (x3 : Int32) (x4 : Int32) (x5 : Int32) (u : zU) : f_X11_led_42 (n + 1) x1 x2 x3 x4 x5 u = if x5 < 0 then (if x2 = true then (some (x4, u)) else (some (x3, u))) else ((f_X11_logged x5 (2 : Int32) u).bind (fun r4 => if r4 = x1 then ((f_X11_logged x5 (0 : Int32) u).bind (fun r5 => f_X11_led_42 n x1 x2 (x3 + (1 : Int32)) r5 (x5 + (-1 : Int32)) u)) else (f_X11_led_42 n x1 x2 x3 x4 (x5 + (-1 : Int32)) u))) := rfl
def f_X11_led (a1 : Int32) (a2 : Bool) (u : zU) : Option (Int32 × zU) :=
  z_let (f_X11_isRider a1 u) (fun t1 => if t1 = true then (z_let (z_up u 0 0 (0 : Int32)) (fun u2 => if (u2 0 0) ≤ 0 then (z_let ((u2 1 11) - (1 : Int32)) (fun z3 => f_X11_led_42 5000 a1 a2 (0 : Int32) (-1 : Int32) z3 u2)) else (some ((0 : Int32), u2)))) else (z_let (z_up u 0 0 (1 : Int32)) (fun u6 => if (u6 0 0) ≤ 0 then (z_let ((u6 1 11) - (1 : Int32)) (fun z7 => f_X11_led_42 5000 a1 a2 (0 : Int32) (-1 : Int32) z7 u6)) else (some ((0 : Int32), u6)))))
set_option maxRecDepth 100000 in
set_option maxHeartbeats 4000000 in
theorem l_X11_led_42 {l : Launch} {D : zD} {A : Nat → Prop} {b : Nat} {p : Program} {e : Env} {s : State} {m : MethodId} {args : Array Value} {below : List Frame} {meth : Method} {c : Code} {v : Int32} {u' : zU} (C0 : z_C p c cX11_led s m args yX11_led.cls D) (hr : meth.sig.returnType = (some .int)) (hml : c.maxLocals = 6) (hlk : meth.locks = false) : ∀ (n : Nat) (x1 : Int32) (x2 : Bool) (x3 : Int32) (x4 : Int32) (x5 : Int32) (u : zU) (H : Heap) (locs : List Loc) (ls : Array Slot), f_X11_led_42 n x1 x2 x3 x4 x5 u = some (v, u') → z_W D A b gM u H → va_S A s.heap H locs → lv_has ls 6 [(0, .ref (b + 0)), (1, .int x1), (2, .int (bI x2)), (3, .int x3), (4, .int x4), (5, .int x5)] → W p l e { frames := 2, cells := 0, slots := 0, locals := 43 } s m args below meth c H locs 0 0 (z_End D A b gM below args s (some (.int v)) u') (F0 m 42 ls []) := by
  have hx := C0.1
  have hb := C0.2.1
  intro n
  induction n with
  | zero => intro x1 x2 x3 x4 x5 u H locs ls h hW hS hl; cases h
  | succ n ih =>
    intro x1 x2 x3 x4 x5 u H locs ls h hW hS hl
    rw [f_X11_led_42_s] at h
    refine lv_iload hx hb dX11_led_42 (lv_at hl 5 rfl) ?_
    refine lv_if_lt (tgt := 79) hx hb dX11_led_44 (by decide) (fun hc => ?_) (fun hc => ?_)
    · have h := z_t h hc
      clear hc
      refine lv_iload_n hx hb dX11_led_79 rfl (lv_at hl 2 rfl) ?_
      refine z_ifeqZ C0 (tgt := 88) dX11_led_80 (by decide) (fun hc => ?_) (fun hc => ?_)
      · have h := z_ff h hc
        clear hc
        refine lv_iload_n hx hb dX11_led_88 rfl (lv_at hl 3 rfl) ?_
        cases h
        exact z_iret C0 hr hlk hW hS dX11_led_89
      · have h := z_t h hc
        clear hc
        refine lv_iload hx hb dX11_led_83 (lv_at hl 4 rfl) ?_
        refine lv_goto (tgt := 89) hx hb dX11_led_85 (by decide) ?_
        cases h
        exact z_iret C0 hr hlk hW hS dX11_led_89
    · have h := z_f h hc
      clear hc
      refine lv_aload_n hx hb dX11_led_47 rfl (lv_at hl 0 rfl) ?_
      refine lv_iload hx hb dX11_led_48 (lv_at hl 5 rfl) ?_
      refine lv_iconst (v := (2 : Int32)) hx hb dX11_led_50 (by decide) ?_
      obtain ⟨r4, hq, h⟩ := z_bd h
      refine z_cvi (As := [.int x5, .int (2 : Int32)]) C0 hml hl.1 hW hS (c_X11_logged l D A b x5 (2 : Int32) u hq) mv_X11_357 rfl ⟨Nat.le_of_ble_eq_true rfl, Nat.le_of_ble_eq_true rfl⟩ rfl rfl (Nat.le_of_ble_eq_true rfl) dX11_led_51 (fun H locs hW hS => ?_)
      clear hq
      refine lv_iload_n hx hb dX11_led_54 rfl (lv_at hl 1 rfl) ?_
      refine lv_icmp_eq (tgt := 61) hx hb dX11_led_55 (by decide) (fun hc => ?_) (fun hc => ?_)
      · have h := z_t h hc
        clear hc
        refine lv_iinc (v := x3 + (1 : Int32)) (lv' := [(3, .int (x3 + (1 : Int32))), (0, .ref (b + 0)), (1, .int x1), (2, .int (bI x2)), (4, .int x4), (5, .int x5)]) hx hb dX11_led_61 hl (k := 3) rfl rfl (by decide) rfl (fun ls hl => ?_)
        refine lv_aload_n hx hb dX11_led_64 rfl (lv_at hl 1 rfl) ?_
        refine lv_iload hx hb dX11_led_65 (lv_at hl 5 rfl) ?_
        refine lv_iconst (v := (0 : Int32)) hx hb dX11_led_67 (by decide) ?_
        obtain ⟨r5, hq, h⟩ := z_bd h
        refine z_cvi (As := [.int x5, .int (0 : Int32)]) C0 hml hl.1 hW hS (c_X11_logged l D A b x5 (0 : Int32) u hq) mv_X11_357 rfl ⟨Nat.le_of_ble_eq_true rfl, Nat.le_of_ble_eq_true rfl⟩ rfl rfl (Nat.le_of_ble_eq_true rfl) dX11_led_68 (fun H locs hW hS => ?_)
        clear hq
        refine lv_istore (lv' := [(4, .int r5), (3, .int (x3 + (1 : Int32))), (0, .ref (b + 0)), (1, .int x1), (2, .int (bI x2)), (5, .int x5)]) hx hb dX11_led_71 hl (by decide) rfl (fun ls hl => ?_)
        refine lv_iinc (v := x5 + (-1 : Int32)) (lv' := [(5, .int (x5 + (-1 : Int32))), (4, .int r5), (3, .int (x3 + (1 : Int32))), (0, .ref (b + 0)), (1, .int x1), (2, .int (bI x2))]) hx hb dX11_led_73 hl (k := 5) rfl rfl (by decide) rfl (fun ls hl => ?_)
        refine lv_goto (tgt := 42) hx hb dX11_led_76 (by decide) ?_
        exact ih _ _ _ _ _ _ _ _ _ h hW hS (lv_sub hl [3, 4, 5, 2, 1, 0] rfl)
      · have h := z_f h hc
        clear hc
        refine lv_goto (tgt := 73) hx hb dX11_led_58 (by decide) ?_
        refine lv_iinc (v := x5 + (-1 : Int32)) (lv' := [(5, .int (x5 + (-1 : Int32))), (0, .ref (b + 0)), (1, .int x1), (2, .int (bI x2)), (3, .int x3), (4, .int x4)]) hx hb dX11_led_73 hl (k := 5) rfl rfl (by decide) rfl (fun ls hl => ?_)
        refine lv_goto (tgt := 42) hx hb dX11_led_76 (by decide) ?_
        exact ih _ _ _ _ _ _ _ _ _ h hW hS (lv_sub hl [1, 2, 3, 4, 5, 0] rfl)
theorem f_X11_led_e (a1 : Int32) (a2 : Bool) (u : zU) : f_X11_led a1 a2 u = z_let (f_X11_isRider a1 u) (fun t1 => if t1 = true then (z_let (z_up u 0 0 (0 : Int32)) (fun u2 => if (u2 0 0) ≤ 0 then (z_let ((u2 1 11) - (1 : Int32)) (fun z3 => f_X11_led_42 5000 a1 a2 (0 : Int32) (-1 : Int32) z3 u2)) else (some ((0 : Int32), u2)))) else (z_let (z_up u 0 0 (1 : Int32)) (fun u6 => if (u6 0 0) ≤ 0 then (z_let ((u6 1 11) - (1 : Int32)) (fun z7 => f_X11_led_42 5000 a1 a2 (0 : Int32) (-1 : Int32) z7 u6)) else (some ((0 : Int32), u6))))) := rfl
set_option maxRecDepth 100000 in
set_option maxHeartbeats 4000000 in
theorem c_X11_led (l : Launch) (D : zD) (A : Nat → Prop) (b : Nat) (a1 : Int32) (a2 : Bool) (u : zU) {v : Int32} {u' : zU} (h : f_X11_led a1 a2 u = some (v, u')) : z_M l D A b gM yX11_led cX11_led 6 (some .int) 2 43 [.ref (b + 0), .int a1, .int (bI a2)] u (some (.int v)) u' := by
  refine z_enter (by decide) (Nat.le_of_ble_eq_true rfl) ?_
  intro p e s m below meth c ls C0 hr hml hlk hW hS hl
  have hl : lv_has ls 6 [(0, .ref (b + 0)), (1, .int a1), (2, .int (bI a2))] := hl
  have hx := C0.1
  have hb := C0.2.1
  rw [f_X11_led_e] at h
  refine lv_aload_n hx hb dX11_led_0 rfl (lv_at hl 0 rfl) ?_
  refine lv_aload_n hx hb dX11_led_1 rfl (lv_at hl 0 rfl) ?_
  refine lv_iload_n hx hb dX11_led_2 rfl (lv_at hl 1 rfl) ?_
  obtain ⟨t1, hq⟩ : ∃ y, f_X11_isRider a1 u = y := ⟨_, rfl⟩
  have h := z_lz h hq
  refine z_cvi (As := [.int a1]) C0 hml hl.1 hW hS (c_X11_isRider l D A b a1 u hq) mv_X11_291 rfl ⟨Nat.le_of_ble_eq_true rfl, Nat.le_of_ble_eq_true rfl⟩ rfl rfl (Nat.le_of_ble_eq_true rfl) dX11_led_3 (fun H locs hW hS => ?_)
  clear hq
  refine z_ifneZ C0 (tgt := 13) dX11_led_6 (by decide) (fun hc => ?_) (fun hc => ?_)
  · have h := z_t h hc
    clear hc
    refine lv_iconst (v := (0 : Int32)) hx hb dX11_led_13 (by decide) ?_
    refine z_puti C0 hW hS fl_X11_42 rfl rfl rfl rfl dX11_led_14 (fun H locs u2 e1 hW hS => ?_)
    have h := z_ly h e1
    clear e1
    refine lv_aload_n hx hb dX11_led_17 rfl (lv_at hl 0 rfl) ?_
    refine z_geti C0 hW fl_X11_42 rfl rfl dX11_led_18 ?_
    refine lv_if_le (tgt := 26) hx hb dX11_led_21 (by decide) (fun hc => ?_) (fun hc => ?_)
    · have h := z_t h hc
      clear hc
      refine lv_iconst (v := (0 : Int32)) hx hb dX11_led_26 (by decide) ?_
      refine lv_istore_n (lv' := [(3, .int (0 : Int32)), (0, .ref (b + 0)), (1, .int a1), (2, .int (bI a2))]) hx hb dX11_led_27 rfl hl (by decide) rfl (fun ls hl => ?_)
      refine lv_iconst (v := (-1 : Int32)) hx hb dX11_led_28 (by decide) ?_
      refine lv_istore (lv' := [(4, .int (-1 : Int32)), (3, .int (0 : Int32)), (0, .ref (b + 0)), (1, .int a1), (2, .int (bI a2))]) hx hb dX11_led_29 hl (by decide) rfl (fun ls hl => ?_)
      refine lv_aload_n hx hb dX11_led_31 rfl (lv_at hl 2 rfl) ?_
      refine z_getr (o := 1) C0 hW fl_X11_7 rfl rfl rfl dX11_led_32 ?_
      refine lv_bipush (v := (11 : Int32)) hx hb dX11_led_35 (by decide) ?_
      refine z_iald (k := 11) C0 hW rfl rfl (by decide) (by decide) dX11_led_37 ?_
      refine lv_iconst (v := (1 : Int32)) hx hb dX11_led_38 (by decide) ?_
      refine lv_isub hx hb dX11_led_39 ?_
      refine lv_topi (fun z3 e1 => ?_)
      have h := z_ly h e1
      clear e1
      refine lv_istore (lv' := [(5, .int z3), (4, .int (-1 : Int32)), (3, .int (0 : Int32)), (0, .ref (b + 0)), (1, .int a1), (2, .int (bI a2))]) hx hb dX11_led_40 hl (by decide) rfl (fun ls hl => ?_)
      exact l_X11_led_42 C0 hr hml hlk 5000 _ _ _ _ _ _ _ _ _ h hW hS (lv_sub hl [3, 4, 5, 2, 1, 0] rfl)
    · have h := z_f h hc
      clear hc
      refine lv_iconst (v := (0 : Int32)) hx hb dX11_led_24 (by decide) ?_
      cases h
      exact z_iret C0 hr hlk hW hS dX11_led_25
  · have h := z_ff h hc
    clear hc
    refine lv_iconst (v := (1 : Int32)) hx hb dX11_led_9 (by decide) ?_
    refine lv_goto (tgt := 14) hx hb dX11_led_10 (by decide) ?_
    refine z_puti C0 hW hS fl_X11_42 rfl rfl rfl rfl dX11_led_14 (fun H locs u6 e1 hW hS => ?_)
    have h := z_ly h e1
    clear e1
    refine lv_aload_n hx hb dX11_led_17 rfl (lv_at hl 0 rfl) ?_
    refine z_geti C0 hW fl_X11_42 rfl rfl dX11_led_18 ?_
    refine lv_if_le (tgt := 26) hx hb dX11_led_21 (by decide) (fun hc => ?_) (fun hc => ?_)
    · have h := z_t h hc
      clear hc
      refine lv_iconst (v := (0 : Int32)) hx hb dX11_led_26 (by decide) ?_
      refine lv_istore_n (lv' := [(3, .int (0 : Int32)), (0, .ref (b + 0)), (1, .int a1), (2, .int (bI a2))]) hx hb dX11_led_27 rfl hl (by decide) rfl (fun ls hl => ?_)
      refine lv_iconst (v := (-1 : Int32)) hx hb dX11_led_28 (by decide) ?_
      refine lv_istore (lv' := [(4, .int (-1 : Int32)), (3, .int (0 : Int32)), (0, .ref (b + 0)), (1, .int a1), (2, .int (bI a2))]) hx hb dX11_led_29 hl (by decide) rfl (fun ls hl => ?_)
      refine lv_aload_n hx hb dX11_led_31 rfl (lv_at hl 2 rfl) ?_
      refine z_getr (o := 1) C0 hW fl_X11_7 rfl rfl rfl dX11_led_32 ?_
      refine lv_bipush (v := (11 : Int32)) hx hb dX11_led_35 (by decide) ?_
      refine z_iald (k := 11) C0 hW rfl rfl (by decide) (by decide) dX11_led_37 ?_
      refine lv_iconst (v := (1 : Int32)) hx hb dX11_led_38 (by decide) ?_
      refine lv_isub hx hb dX11_led_39 ?_
      refine lv_topi (fun z7 e1 => ?_)
      have h := z_ly h e1
      clear e1
      refine lv_istore (lv' := [(5, .int z7), (4, .int (-1 : Int32)), (3, .int (0 : Int32)), (0, .ref (b + 0)), (1, .int a1), (2, .int (bI a2))]) hx hb dX11_led_40 hl (by decide) rfl (fun ls hl => ?_)
      exact l_X11_led_42 C0 hr hml hlk 5000 _ _ _ _ _ _ _ _ _ h hW hS (lv_sub hl [3, 4, 5, 2, 1, 0] rfl)
    · have h := z_f h hc
      clear hc
      refine lv_iconst (v := (0 : Int32)) hx hb dX11_led_24 (by decide) ?_
      cases h
      exact z_iret C0 hr hlk hW hS dX11_led_25
def f_X11_log (a1 : Int32) (a2 : Int32) (u : zU) : Option (Int32 × zU) :=
  z_let (f_X11_isIn a2 (0 : Int32) (3 : Int32) u) (fun t1 => if t1 = true then (z_let (z_up u 0 0 (0 : Int32)) (fun u2 => if (u2 0 0) ≤ 0 then (z_let (f_X11_isIn a1 (0 : Int32) ((u2 1 11) - (1 : Int32)) u2) (fun t3 => if t3 = true then ((f_X11_logged a1 a2 u2).bind (fun r4 => some (r4, u2))) else (some ((-2 : Int32), u2)))) else (some ((0 : Int32), u2)))) else (z_let (z_up u 0 0 (1 : Int32)) (fun u5 => if (u5 0 0) ≤ 0 then (z_let (f_X11_isIn a1 (0 : Int32) ((u5 1 11) - (1 : Int32)) u5) (fun t6 => if t6 = true then ((f_X11_logged a1 a2 u5).bind (fun r7 => some (r7, u5))) else (some ((-2 : Int32), u5)))) else (some ((0 : Int32), u5)))))
theorem f_X11_log_e (a1 : Int32) (a2 : Int32) (u : zU) : f_X11_log a1 a2 u = z_let (f_X11_isIn a2 (0 : Int32) (3 : Int32) u) (fun t1 => if t1 = true then (z_let (z_up u 0 0 (0 : Int32)) (fun u2 => if (u2 0 0) ≤ 0 then (z_let (f_X11_isIn a1 (0 : Int32) ((u2 1 11) - (1 : Int32)) u2) (fun t3 => if t3 = true then ((f_X11_logged a1 a2 u2).bind (fun r4 => some (r4, u2))) else (some ((-2 : Int32), u2)))) else (some ((0 : Int32), u2)))) else (z_let (z_up u 0 0 (1 : Int32)) (fun u5 => if (u5 0 0) ≤ 0 then (z_let (f_X11_isIn a1 (0 : Int32) ((u5 1 11) - (1 : Int32)) u5) (fun t6 => if t6 = true then ((f_X11_logged a1 a2 u5).bind (fun r7 => some (r7, u5))) else (some ((-2 : Int32), u5)))) else (some ((0 : Int32), u5))))) := rfl
set_option maxRecDepth 100000 in
set_option maxHeartbeats 4000000 in
theorem c_X11_log (l : Launch) (D : zD) (A : Nat → Prop) (b : Nat) (a1 : Int32) (a2 : Int32) (u : zU) {v : Int32} {u' : zU} (h : f_X11_log a1 a2 u = some (v, u')) : z_M l D A b gM yX11_log cX11_log 3 (some .int) 1 22 [.ref (b + 0), .int a1, .int a2] u (some (.int v)) u' := by
  refine z_enter (by decide) (Nat.le_of_ble_eq_true rfl) ?_
  intro p e s m below meth c ls C0 hr hml hlk hW hS hl
  have hl : lv_has ls 3 [(0, .ref (b + 0)), (1, .int a1), (2, .int a2)] := hl
  have hx := C0.1
  have hb := C0.2.1
  rw [f_X11_log_e] at h
  refine lv_aload_n hx hb dX11_log_0 rfl (lv_at hl 0 rfl) ?_
  refine lv_iload_n hx hb dX11_log_1 rfl (lv_at hl 2 rfl) ?_
  refine lv_iconst (v := (0 : Int32)) hx hb dX11_log_2 (by decide) ?_
  refine lv_iconst (v := (3 : Int32)) hx hb dX11_log_3 (by decide) ?_
  obtain ⟨t1, hq⟩ : ∃ y, f_X11_isIn a2 (0 : Int32) (3 : Int32) u = y := ⟨_, rfl⟩
  have h := z_lz h hq
  refine z_csi (As := [.int a2, .int (0 : Int32), .int (3 : Int32)]) C0 hml hl.1 hW hS (c_X11_isIn l D A b a2 (0 : Int32) (3 : Int32) u hq) ms_X11_45 ⟨Nat.le_of_ble_eq_true rfl, Nat.le_of_ble_eq_true rfl⟩ rfl rfl (Nat.le_of_ble_eq_true rfl) dX11_log_4 (fun H locs hW hS => ?_)
  clear hq
  refine z_ifneZ C0 (tgt := 14) dX11_log_7 (by decide) (fun hc => ?_) (fun hc => ?_)
  · have h := z_t h hc
    clear hc
    refine lv_iconst (v := (0 : Int32)) hx hb dX11_log_14 (by decide) ?_
    refine z_puti C0 hW hS fl_X11_42 rfl rfl rfl rfl dX11_log_15 (fun H locs u2 e1 hW hS => ?_)
    have h := z_ly h e1
    clear e1
    refine lv_aload_n hx hb dX11_log_18 rfl (lv_at hl 0 rfl) ?_
    refine z_geti C0 hW fl_X11_42 rfl rfl dX11_log_19 ?_
    refine lv_if_le (tgt := 27) hx hb dX11_log_22 (by decide) (fun hc => ?_) (fun hc => ?_)
    · have h := z_t h hc
      clear hc
      refine lv_iload_n hx hb dX11_log_27 rfl (lv_at hl 1 rfl) ?_
      refine lv_iconst (v := (0 : Int32)) hx hb dX11_log_28 (by decide) ?_
      refine lv_aload_n hx hb dX11_log_29 rfl (lv_at hl 0 rfl) ?_
      refine z_getr (o := 1) C0 hW fl_X11_7 rfl rfl rfl dX11_log_30 ?_
      refine lv_bipush (v := (11 : Int32)) hx hb dX11_log_33 (by decide) ?_
      refine z_iald (k := 11) C0 hW rfl rfl (by decide) (by decide) dX11_log_35 ?_
      refine lv_iconst (v := (1 : Int32)) hx hb dX11_log_36 (by decide) ?_
      refine lv_isub hx hb dX11_log_37 ?_
      obtain ⟨t3, hq⟩ : ∃ y, f_X11_isIn a1 (0 : Int32) ((u2 1 11) - (1 : Int32)) u2 = y := ⟨_, rfl⟩
      have h := z_lz h hq
      refine z_csi (As := [.int a1, .int (0 : Int32), .int ((u2 1 11) - (1 : Int32))]) C0 hml hl.1 hW hS (c_X11_isIn l D A b a1 (0 : Int32) ((u2 1 11) - (1 : Int32)) u2 hq) ms_X11_45 ⟨Nat.le_of_ble_eq_true rfl, Nat.le_of_ble_eq_true rfl⟩ rfl rfl (Nat.le_of_ble_eq_true rfl) dX11_log_38 (fun H locs hW hS => ?_)
      clear hq
      refine z_ifeqZ C0 (tgt := 53) dX11_log_41 (by decide) (fun hc => ?_) (fun hc => ?_)
      · have h := z_ff h hc
        clear hc
        refine lv_bipush (v := (-2 : Int32)) hx hb dX11_log_53 (by decide) ?_
        cases h
        exact z_iret C0 hr hlk hW hS dX11_log_55
      · have h := z_t h hc
        clear hc
        refine lv_aload_n hx hb dX11_log_44 rfl (lv_at hl 0 rfl) ?_
        refine lv_iload_n hx hb dX11_log_45 rfl (lv_at hl 1 rfl) ?_
        refine lv_iload_n hx hb dX11_log_46 rfl (lv_at hl 2 rfl) ?_
        obtain ⟨r4, hq, h⟩ := z_bd h
        refine z_cvi (As := [.int a1, .int a2]) C0 hml hl.1 hW hS (c_X11_logged l D A b a1 a2 u2 hq) mv_X11_357 rfl ⟨Nat.le_of_ble_eq_true rfl, Nat.le_of_ble_eq_true rfl⟩ rfl rfl (Nat.le_of_ble_eq_true rfl) dX11_log_47 (fun H locs hW hS => ?_)
        clear hq
        refine lv_goto (tgt := 55) hx hb dX11_log_50 (by decide) ?_
        cases h
        exact z_iret C0 hr hlk hW hS dX11_log_55
    · have h := z_f h hc
      clear hc
      refine lv_iconst (v := (0 : Int32)) hx hb dX11_log_25 (by decide) ?_
      cases h
      exact z_iret C0 hr hlk hW hS dX11_log_26
  · have h := z_ff h hc
    clear hc
    refine lv_iconst (v := (1 : Int32)) hx hb dX11_log_10 (by decide) ?_
    refine lv_goto (tgt := 15) hx hb dX11_log_11 (by decide) ?_
    refine z_puti C0 hW hS fl_X11_42 rfl rfl rfl rfl dX11_log_15 (fun H locs u5 e1 hW hS => ?_)
    have h := z_ly h e1
    clear e1
    refine lv_aload_n hx hb dX11_log_18 rfl (lv_at hl 0 rfl) ?_
    refine z_geti C0 hW fl_X11_42 rfl rfl dX11_log_19 ?_
    refine lv_if_le (tgt := 27) hx hb dX11_log_22 (by decide) (fun hc => ?_) (fun hc => ?_)
    · have h := z_t h hc
      clear hc
      refine lv_iload_n hx hb dX11_log_27 rfl (lv_at hl 1 rfl) ?_
      refine lv_iconst (v := (0 : Int32)) hx hb dX11_log_28 (by decide) ?_
      refine lv_aload_n hx hb dX11_log_29 rfl (lv_at hl 0 rfl) ?_
      refine z_getr (o := 1) C0 hW fl_X11_7 rfl rfl rfl dX11_log_30 ?_
      refine lv_bipush (v := (11 : Int32)) hx hb dX11_log_33 (by decide) ?_
      refine z_iald (k := 11) C0 hW rfl rfl (by decide) (by decide) dX11_log_35 ?_
      refine lv_iconst (v := (1 : Int32)) hx hb dX11_log_36 (by decide) ?_
      refine lv_isub hx hb dX11_log_37 ?_
      obtain ⟨t6, hq⟩ : ∃ y, f_X11_isIn a1 (0 : Int32) ((u5 1 11) - (1 : Int32)) u5 = y := ⟨_, rfl⟩
      have h := z_lz h hq
      refine z_csi (As := [.int a1, .int (0 : Int32), .int ((u5 1 11) - (1 : Int32))]) C0 hml hl.1 hW hS (c_X11_isIn l D A b a1 (0 : Int32) ((u5 1 11) - (1 : Int32)) u5 hq) ms_X11_45 ⟨Nat.le_of_ble_eq_true rfl, Nat.le_of_ble_eq_true rfl⟩ rfl rfl (Nat.le_of_ble_eq_true rfl) dX11_log_38 (fun H locs hW hS => ?_)
      clear hq
      refine z_ifeqZ C0 (tgt := 53) dX11_log_41 (by decide) (fun hc => ?_) (fun hc => ?_)
      · have h := z_ff h hc
        clear hc
        refine lv_bipush (v := (-2 : Int32)) hx hb dX11_log_53 (by decide) ?_
        cases h
        exact z_iret C0 hr hlk hW hS dX11_log_55
      · have h := z_t h hc
        clear hc
        refine lv_aload_n hx hb dX11_log_44 rfl (lv_at hl 0 rfl) ?_
        refine lv_iload_n hx hb dX11_log_45 rfl (lv_at hl 1 rfl) ?_
        refine lv_iload_n hx hb dX11_log_46 rfl (lv_at hl 2 rfl) ?_
        obtain ⟨r7, hq, h⟩ := z_bd h
        refine z_cvi (As := [.int a1, .int a2]) C0 hml hl.1 hW hS (c_X11_logged l D A b a1 a2 u5 hq) mv_X11_357 rfl ⟨Nat.le_of_ble_eq_true rfl, Nat.le_of_ble_eq_true rfl⟩ rfl rfl (Nat.le_of_ble_eq_true rfl) dX11_log_47 (fun H locs hW hS => ?_)
        clear hq
        refine lv_goto (tgt := 55) hx hb dX11_log_50 (by decide) ?_
        cases h
        exact z_iret C0 hr hlk hW hS dX11_log_55
    · have h := z_f h hc
      clear hc
      refine lv_iconst (v := (0 : Int32)) hx hb dX11_log_25 (by decide) ?_
      cases h
      exact z_iret C0 hr hlk hW hS dX11_log_26
def f_X11_seed (a1 : Int32) (u : zU) : Int32 × zU :=
  z_let (z_up u 0 0 (0 : Int32)) (fun u1 => z_let (u1 1 12) (fun z2 => z_let (z_up u1 1 12 a1) (fun u3 => (z2, u3))))
theorem f_X11_seed_e (a1 : Int32) (u : zU) : f_X11_seed a1 u = z_let (z_up u 0 0 (0 : Int32)) (fun u1 => z_let (u1 1 12) (fun z2 => z_let (z_up u1 1 12 a1) (fun u3 => (z2, u3)))) := rfl
set_option maxRecDepth 100000 in
set_option maxHeartbeats 4000000 in
theorem c_X11_seed (l : Launch) (D : zD) (A : Nat → Prop) (b : Nat) (a1 : Int32) (u : zU) {v : Int32} {u' : zU} (h : f_X11_seed a1 u = (v, u')) : z_M l D A b gM yX11_seed cX11_seed 3 (some .int) 0 0 [.ref (b + 0), .int a1] u (some (.int v)) u' := by
  refine z_enter (by decide) (Nat.le_of_ble_eq_true rfl) ?_
  intro p e s m below meth c ls C0 hr hml hlk hW hS hl
  have hl : lv_has ls 3 [(0, .ref (b + 0)), (1, .int a1)] := hl
  have hx := C0.1
  have hb := C0.2.1
  rw [f_X11_seed_e] at h
  refine lv_aload_n hx hb dX11_seed_0 rfl (lv_at hl 0 rfl) ?_
  refine lv_iconst (v := (0 : Int32)) hx hb dX11_seed_1 (by decide) ?_
  refine z_puti C0 hW hS fl_X11_42 rfl rfl rfl rfl dX11_seed_2 (fun H locs u1 e1 hW hS => ?_)
  have h := z_ly h e1
  clear e1
  refine lv_aload_n hx hb dX11_seed_5 rfl (lv_at hl 0 rfl) ?_
  refine z_getr (o := 1) C0 hW fl_X11_7 rfl rfl rfl dX11_seed_6 ?_
  refine lv_bipush (v := (12 : Int32)) hx hb dX11_seed_9 (by decide) ?_
  refine z_iald (k := 12) C0 hW rfl rfl (by decide) (by decide) dX11_seed_11 ?_
  refine lv_topi (fun z2 e1 => ?_)
  have h := z_ly h e1
  clear e1
  refine lv_istore_n (lv' := [(2, .int z2), (0, .ref (b + 0)), (1, .int a1)]) hx hb dX11_seed_12 rfl hl (by decide) rfl (fun ls hl => ?_)
  refine lv_aload_n hx hb dX11_seed_13 rfl (lv_at hl 1 rfl) ?_
  refine z_getr (o := 1) C0 hW fl_X11_7 rfl rfl rfl dX11_seed_14 ?_
  refine lv_bipush (v := (12 : Int32)) hx hb dX11_seed_17 (by decide) ?_
  refine lv_iload_n hx hb dX11_seed_19 rfl (lv_at hl 2 rfl) ?_
  refine z_iast (k := 12) C0 hW hS rfl rfl (by decide) (by decide) dX11_seed_20 (fun H locs u3 e1 hW hS => ?_)
  have h := z_ly h e1
  clear e1
  refine lv_iload_n hx hb dX11_seed_21 rfl (lv_at hl 0 rfl) ?_
  cases h
  exact z_iret C0 hr hlk hW hS dX11_seed_22
def f_X11_undo_26 : Nat → Int32 → zU → Option (Bool × zU)
  | 0, _, _ => none
  | n + 1, x1, u =>
    if (305 : Int32) ≤ x1 then (some (true, u)) else (if z_in (((305 : Int32) * (u 0 6)) + x1) 3660 = true then (z_let (u 4 (((305 : Int32) * (u 0 6)) + x1).toNatClampNeg) (fun z3 => if z_in x1 705 = true then (z_let (z_up u 1 (x1).toNatClampNeg z3) (fun u4 => f_X11_undo_26 n (x1 + (1 : Int32)) u4)) else none)) else none)
theorem f_X11_undo_26_s (n : Nat) (x1 : Int32) (u : zU) : f_X11_undo_26 (n + 1) x1 u = if (305 : Int32) ≤ x1 then (some (true, u)) else (if z_in (((305 : Int32) * (u 0 6)) + x1) 3660 = true then (z_let (u 4 (((305 : Int32) * (u 0 6)) + x1).toNatClampNeg) (fun z3 => if z_in x1 705 = true then (z_let (z_up u 1 (x1).toNatClampNeg z3) (fun u4 => f_X11_undo_26 n (x1 + (1 : Int32)) u4)) else none)) else none) := rfl
def f_X11_undo  (u : zU) : Option (Bool × zU) :=
  z_let (z_up u 0 0 (0 : Int32)) (fun u1 => if (u1 0 6) = 0 then (some (false, u1)) else (z_let (z_up u1 0 6 ((u1 0 6) - (1 : Int32))) (fun u2 => f_X11_undo_26 5000 (0 : Int32) u2)))
set_option maxRecDepth 100000 in
set_option maxHeartbeats 4000000 in
theorem l_X11_undo_26 {l : Launch} {D : zD} {A : Nat → Prop} {b : Nat} {p : Program} {e : Env} {s : State} {m : MethodId} {args : Array Value} {below : List Frame} {meth : Method} {c : Code} {v : Bool} {u' : zU} (C0 : z_C p c cX11_undo s m args yX11_undo.cls D) (hr : meth.sig.returnType = (some .boolean)) (hml : c.maxLocals = 2) (hlk : meth.locks = false) : ∀ (n : Nat) (x1 : Int32) (u : zU) (H : Heap) (locs : List Loc) (ls : Array Slot), f_X11_undo_26 n x1 u = some (v, u') → z_W D A b gM u H → va_S A s.heap H locs → lv_has ls 2 [(0, .ref (b + 0)), (1, .int x1)] → W p l e { frames := 0, cells := 0, slots := 0, locals := 0 } s m args below meth c H locs 0 0 (z_End D A b gM below args s (some (.int (bI v))) u') (F0 m 26 ls []) := by
  have hx := C0.1
  have hb := C0.2.1
  intro n
  induction n with
  | zero => intro x1 u H locs ls h hW hS hl; cases h
  | succ n ih =>
    intro x1 u H locs ls h hW hS hl
    rw [f_X11_undo_26_s] at h
    refine lv_iload_n hx hb dX11_undo_26 rfl (lv_at hl 1 rfl) ?_
    refine lv_sipush (v := (305 : Int32)) hx hb dX11_undo_27 (by decide) ?_
    refine lv_icmp_ge (tgt := 60) hx hb dX11_undo_30 (by decide) (fun hc => ?_) (fun hc => ?_)
    · have h := z_t h hc
      clear hc
      refine lv_iconst (v := (1 : Int32)) hx hb dX11_undo_60 (by decide) ?_
      cases h
      exact z_zret (x := true) C0 hr hlk hW hS dX11_undo_61
    · have h := z_f h hc
      clear hc
      refine lv_aload_n hx hb dX11_undo_33 rfl (lv_at hl 0 rfl) ?_
      refine z_getr (o := 1) C0 hW fl_X11_7 rfl rfl rfl dX11_undo_34 ?_
      refine lv_iload_n hx hb dX11_undo_37 rfl (lv_at hl 1 rfl) ?_
      refine lv_aload_n hx hb dX11_undo_38 rfl (lv_at hl 0 rfl) ?_
      refine z_getr (o := 4) C0 hW fl_X11_19 rfl rfl rfl dX11_undo_39 ?_
      refine lv_sipush (v := (305 : Int32)) hx hb dX11_undo_42 (by decide) ?_
      refine lv_aload_n hx hb dX11_undo_45 rfl (lv_at hl 0 rfl) ?_
      refine z_geti C0 hW fl_X11_182 rfl rfl dX11_undo_46 ?_
      refine lv_imul hx hb dX11_undo_49 ?_
      refine lv_iload_n hx hb dX11_undo_50 rfl (lv_at hl 1 rfl) ?_
      refine lv_iadd hx hb dX11_undo_51 ?_
      obtain ⟨hin, h⟩ := z_if h
      refine z_iald C0 hW rfl rfl hin rfl dX11_undo_52 ?_
      clear hin
      refine lv_topi (fun z3 e1 => ?_)
      have h := z_ly h e1
      clear e1
      obtain ⟨hin, h⟩ := z_if h
      refine z_iast C0 hW hS rfl rfl hin rfl dX11_undo_53 (fun H locs u4 e1 hW hS => ?_)
      have h := z_ly h e1
      clear e1
      refine lv_iinc (v := x1 + (1 : Int32)) (lv' := [(1, .int (x1 + (1 : Int32))), (0, .ref (b + 0))]) hx hb dX11_undo_54 hl (k := 1) rfl rfl (by decide) rfl (fun ls hl => ?_)
      refine lv_goto (tgt := 26) hx hb dX11_undo_57 (by decide) ?_
      exact ih _ _ _ _ _ h hW hS (lv_sub hl [1, 0] rfl)
theorem f_X11_undo_e  (u : zU) : f_X11_undo  u = z_let (z_up u 0 0 (0 : Int32)) (fun u1 => if (u1 0 6) = 0 then (some (false, u1)) else (z_let (z_up u1 0 6 ((u1 0 6) - (1 : Int32))) (fun u2 => f_X11_undo_26 5000 (0 : Int32) u2))) := rfl
set_option maxRecDepth 100000 in
set_option maxHeartbeats 4000000 in
theorem c_X11_undo (l : Launch) (D : zD) (A : Nat → Prop) (b : Nat)  (u : zU) {v : Bool} {u' : zU} (h : f_X11_undo  u = some (v, u')) : z_M l D A b gM yX11_undo cX11_undo 2 (some .boolean) 0 0 [.ref (b + 0)] u (some (.int (bI v))) u' := by
  refine z_enter (by decide) (Nat.le_of_ble_eq_true rfl) ?_
  intro p e s m below meth c ls C0 hr hml hlk hW hS hl
  have hl : lv_has ls 2 [(0, .ref (b + 0))] := hl
  have hx := C0.1
  have hb := C0.2.1
  rw [f_X11_undo_e] at h
  refine lv_aload_n hx hb dX11_undo_0 rfl (lv_at hl 0 rfl) ?_
  refine lv_iconst (v := (0 : Int32)) hx hb dX11_undo_1 (by decide) ?_
  refine z_puti C0 hW hS fl_X11_42 rfl rfl rfl rfl dX11_undo_2 (fun H locs u1 e1 hW hS => ?_)
  have h := z_ly h e1
  clear e1
  refine lv_aload_n hx hb dX11_undo_5 rfl (lv_at hl 0 rfl) ?_
  refine z_geti C0 hW fl_X11_182 rfl rfl dX11_undo_6 ?_
  refine lv_if_ne (tgt := 14) hx hb dX11_undo_9 (by decide) (fun hc => ?_) (fun hc => ?_)
  · have h := z_f h hc
    clear hc
    refine lv_aload_n hx hb dX11_undo_14 rfl (lv_at hl 0 rfl) ?_
    refine lv_dup hx hb dX11_undo_15 rfl ?_
    refine z_geti C0 hW fl_X11_182 rfl rfl dX11_undo_16 ?_
    refine lv_iconst (v := (1 : Int32)) hx hb dX11_undo_19 (by decide) ?_
    refine lv_isub hx hb dX11_undo_20 ?_
    refine z_puti C0 hW hS fl_X11_182 rfl rfl rfl rfl dX11_undo_21 (fun H locs u2 e1 hW hS => ?_)
    have h := z_ly h e1
    clear e1
    refine lv_iconst (v := (0 : Int32)) hx hb dX11_undo_24 (by decide) ?_
    refine lv_istore_n (lv' := [(1, .int (0 : Int32)), (0, .ref (b + 0))]) hx hb dX11_undo_25 rfl hl (by decide) rfl (fun ls hl => ?_)
    exact l_X11_undo_26 C0 hr hml hlk 5000 _ _ _ _ _ h hW hS (lv_sub hl [1, 0] rfl)
  · have h := z_t h hc
    clear hc
    refine lv_iconst (v := (0 : Int32)) hx hb dX11_undo_12 (by decide) ?_
    cases h
    exact z_zret (x := false) C0 hr hlk hW hS dX11_undo_13
def f_X11_image_7 : Nat → Int32 → zU → Option (zU)
  | 0, _, _ => none
  | n + 1, x1, u =>
    if (705 : Int32) ≤ x1 then (z_let (z_up u 0 3 (1 : Int32)) (fun u2 => some u2)) else (if z_in x1 705 = true then (z_let (u 1 (x1).toNatClampNeg) (fun z3 => if z_in x1 705 = true then (z_let (z_up u 2 (x1).toNatClampNeg z3) (fun u4 => f_X11_image_7 n (x1 + (1 : Int32)) u4)) else none)) else none)
theorem f_X11_image_7_s (n : Nat) (x1 : Int32) (u : zU) : f_X11_image_7 (n + 1) x1 u = if (705 : Int32) ≤ x1 then (z_let (z_up u 0 3 (1 : Int32)) (fun u2 => some u2)) else (if z_in x1 705 = true then (z_let (u 1 (x1).toNatClampNeg) (fun z3 => if z_in x1 705 = true then (z_let (z_up u 2 (x1).toNatClampNeg z3) (fun u4 => f_X11_image_7 n (x1 + (1 : Int32)) u4)) else none)) else none) := rfl
def f_X11_image  (u : zU) : Option (zU) :=
  z_let (z_up u 0 0 (0 : Int32)) (fun u1 => f_X11_image_7 5000 (0 : Int32) u1)
set_option maxRecDepth 100000 in
set_option maxHeartbeats 4000000 in
theorem l_X11_image_7 {l : Launch} {D : zD} {A : Nat → Prop} {b : Nat} {p : Program} {e : Env} {s : State} {m : MethodId} {args : Array Value} {below : List Frame} {meth : Method} {c : Code} {u' : zU} (C0 : z_C p c cX11_image s m args yX11_image.cls D) (hr : meth.sig.returnType = none) (hml : c.maxLocals = 2) (hlk : meth.locks = false) : ∀ (n : Nat) (x1 : Int32) (u : zU) (H : Heap) (locs : List Loc) (ls : Array Slot), f_X11_image_7 n x1 u = some u' → z_W D A b gM u H → va_S A s.heap H locs → lv_has ls 2 [(0, .ref (b + 0)), (1, .int x1)] → W p l e { frames := 0, cells := 0, slots := 0, locals := 0 } s m args below meth c H locs 0 0 (z_End D A b gM below args s none u') (F0 m 7 ls []) := by
  have hx := C0.1
  have hb := C0.2.1
  intro n
  induction n with
  | zero => intro x1 u H locs ls h hW hS hl; cases h
  | succ n ih =>
    intro x1 u H locs ls h hW hS hl
    rw [f_X11_image_7_s] at h
    refine lv_iload_n hx hb dX11_image_7 rfl (lv_at hl 1 rfl) ?_
    refine lv_sipush (v := (705 : Int32)) hx hb dX11_image_8 (by decide) ?_
    refine lv_icmp_ge (tgt := 32) hx hb dX11_image_11 (by decide) (fun hc => ?_) (fun hc => ?_)
    · have h := z_t h hc
      clear hc
      refine lv_aload_n hx hb dX11_image_32 rfl (lv_at hl 0 rfl) ?_
      refine lv_iconst (v := (1 : Int32)) hx hb dX11_image_33 (by decide) ?_
      refine z_puti C0 hW hS fl_X11_360 rfl rfl rfl rfl dX11_image_34 (fun H locs u2 e1 hW hS => ?_)
      have h := z_ly h e1
      clear e1
      cases h
      exact z_vret C0 hr hlk hW hS dX11_image_37
    · have h := z_f h hc
      clear hc
      refine lv_aload_n hx hb dX11_image_14 rfl (lv_at hl 0 rfl) ?_
      refine z_getr (o := 2) C0 hW fl_X11_13 rfl rfl rfl dX11_image_15 ?_
      refine lv_iload_n hx hb dX11_image_18 rfl (lv_at hl 1 rfl) ?_
      refine lv_aload_n hx hb dX11_image_19 rfl (lv_at hl 0 rfl) ?_
      refine z_getr (o := 1) C0 hW fl_X11_7 rfl rfl rfl dX11_image_20 ?_
      refine lv_iload_n hx hb dX11_image_23 rfl (lv_at hl 1 rfl) ?_
      obtain ⟨hin, h⟩ := z_if h
      refine z_iald C0 hW rfl rfl hin rfl dX11_image_24 ?_
      clear hin
      refine lv_topi (fun z3 e1 => ?_)
      have h := z_ly h e1
      clear e1
      obtain ⟨hin, h⟩ := z_if h
      refine z_iast C0 hW hS rfl rfl hin rfl dX11_image_25 (fun H locs u4 e1 hW hS => ?_)
      have h := z_ly h e1
      clear e1
      refine lv_iinc (v := x1 + (1 : Int32)) (lv' := [(1, .int (x1 + (1 : Int32))), (0, .ref (b + 0))]) hx hb dX11_image_26 hl (k := 1) rfl rfl (by decide) rfl (fun ls hl => ?_)
      refine lv_goto (tgt := 7) hx hb dX11_image_29 (by decide) ?_
      exact ih _ _ _ _ _ h hW hS (lv_sub hl [1, 0] rfl)
theorem f_X11_image_e  (u : zU) : f_X11_image  u = z_let (z_up u 0 0 (0 : Int32)) (fun u1 => f_X11_image_7 5000 (0 : Int32) u1) := rfl
set_option maxRecDepth 100000 in
set_option maxHeartbeats 4000000 in
theorem c_X11_image (l : Launch) (D : zD) (A : Nat → Prop) (b : Nat)  (u : zU) {u' : zU} (h : f_X11_image  u = some u') : z_M l D A b gM yX11_image cX11_image 2 none 0 0 [.ref (b + 0)] u none u' := by
  refine z_enter (by decide) (Nat.le_of_ble_eq_true rfl) ?_
  intro p e s m below meth c ls C0 hr hml hlk hW hS hl
  have hl : lv_has ls 2 [(0, .ref (b + 0))] := hl
  have hx := C0.1
  have hb := C0.2.1
  rw [f_X11_image_e] at h
  refine lv_aload_n hx hb dX11_image_0 rfl (lv_at hl 0 rfl) ?_
  refine lv_iconst (v := (0 : Int32)) hx hb dX11_image_1 (by decide) ?_
  refine z_puti C0 hW hS fl_X11_42 rfl rfl rfl rfl dX11_image_2 (fun H locs u1 e1 hW hS => ?_)
  have h := z_ly h e1
  clear e1
  refine lv_iconst (v := (0 : Int32)) hx hb dX11_image_5 (by decide) ?_
  refine lv_istore_n (lv' := [(1, .int (0 : Int32)), (0, .ref (b + 0))]) hx hb dX11_image_6 rfl hl (by decide) rfl (fun ls hl => ?_)
  exact l_X11_image_7 C0 hr hml hlk 5000 _ _ _ _ _ h hW hS (lv_sub hl [1, 0] rfl)
def f_X11_back_16 : Nat → Int32 → zU → Option (Bool × zU)
  | 0, _, _ => none
  | n + 1, x1, u =>
    if (705 : Int32) ≤ x1 then (z_let (z_up u 0 6 (0 : Int32)) (fun u2 => some (true, u2))) else (if z_in x1 705 = true then (z_let (u 2 (x1).toNatClampNeg) (fun z3 => if z_in x1 705 = true then (z_let (z_up u 1 (x1).toNatClampNeg z3) (fun u4 => f_X11_back_16 n (x1 + (1 : Int32)) u4)) else none)) else none)
theorem f_X11_back_16_s (n : Nat) (x1 : Int32) (u : zU) : f_X11_back_16 (n + 1) x1 u = if (705 : Int32) ≤ x1 then (z_let (z_up u 0 6 (0 : Int32)) (fun u2 => some (true, u2))) else (if z_in x1 705 = true then (z_let (u 2 (x1).toNatClampNeg) (fun z3 => if z_in x1 705 = true then (z_let (z_up u 1 (x1).toNatClampNeg z3) (fun u4 => f_X11_back_16 n (x1 + (1 : Int32)) u4)) else none)) else none) := rfl
def f_X11_back  (u : zU) : Option (Bool × zU) :=
  z_let (z_up u 0 0 (0 : Int32)) (fun u1 => if (u1 0 3) = 0 then (some (false, u1)) else (f_X11_back_16 5000 (0 : Int32) u1))
set_option maxRecDepth 100000 in
set_option maxHeartbeats 4000000 in
theorem l_X11_back_16 {l : Launch} {D : zD} {A : Nat → Prop} {b : Nat} {p : Program} {e : Env} {s : State} {m : MethodId} {args : Array Value} {below : List Frame} {meth : Method} {c : Code} {v : Bool} {u' : zU} (C0 : z_C p c cX11_back s m args yX11_back.cls D) (hr : meth.sig.returnType = (some .boolean)) (hml : c.maxLocals = 2) (hlk : meth.locks = false) : ∀ (n : Nat) (x1 : Int32) (u : zU) (H : Heap) (locs : List Loc) (ls : Array Slot), f_X11_back_16 n x1 u = some (v, u') → z_W D A b gM u H → va_S A s.heap H locs → lv_has ls 2 [(0, .ref (b + 0)), (1, .int x1)] → W p l e { frames := 0, cells := 0, slots := 0, locals := 0 } s m args below meth c H locs 0 0 (z_End D A b gM below args s (some (.int (bI v))) u') (F0 m 16 ls []) := by
  have hx := C0.1
  have hb := C0.2.1
  intro n
  induction n with
  | zero => intro x1 u H locs ls h hW hS hl; cases h
  | succ n ih =>
    intro x1 u H locs ls h hW hS hl
    rw [f_X11_back_16_s] at h
    refine lv_iload_n hx hb dX11_back_16 rfl (lv_at hl 1 rfl) ?_
    refine lv_sipush (v := (705 : Int32)) hx hb dX11_back_17 (by decide) ?_
    refine lv_icmp_ge (tgt := 41) hx hb dX11_back_20 (by decide) (fun hc => ?_) (fun hc => ?_)
    · have h := z_t h hc
      clear hc
      refine lv_aload_n hx hb dX11_back_41 rfl (lv_at hl 0 rfl) ?_
      refine lv_iconst (v := (0 : Int32)) hx hb dX11_back_42 (by decide) ?_
      refine z_puti C0 hW hS fl_X11_182 rfl rfl rfl rfl dX11_back_43 (fun H locs u2 e1 hW hS => ?_)
      have h := z_ly h e1
      clear e1
      refine lv_iconst (v := (1 : Int32)) hx hb dX11_back_46 (by decide) ?_
      cases h
      exact z_zret (x := true) C0 hr hlk hW hS dX11_back_47
    · have h := z_f h hc
      clear hc
      refine lv_aload_n hx hb dX11_back_23 rfl (lv_at hl 0 rfl) ?_
      refine z_getr (o := 1) C0 hW fl_X11_7 rfl rfl rfl dX11_back_24 ?_
      refine lv_iload_n hx hb dX11_back_27 rfl (lv_at hl 1 rfl) ?_
      refine lv_aload_n hx hb dX11_back_28 rfl (lv_at hl 0 rfl) ?_
      refine z_getr (o := 2) C0 hW fl_X11_13 rfl rfl rfl dX11_back_29 ?_
      refine lv_iload_n hx hb dX11_back_32 rfl (lv_at hl 1 rfl) ?_
      obtain ⟨hin, h⟩ := z_if h
      refine z_iald C0 hW rfl rfl hin rfl dX11_back_33 ?_
      clear hin
      refine lv_topi (fun z3 e1 => ?_)
      have h := z_ly h e1
      clear e1
      obtain ⟨hin, h⟩ := z_if h
      refine z_iast C0 hW hS rfl rfl hin rfl dX11_back_34 (fun H locs u4 e1 hW hS => ?_)
      have h := z_ly h e1
      clear e1
      refine lv_iinc (v := x1 + (1 : Int32)) (lv' := [(1, .int (x1 + (1 : Int32))), (0, .ref (b + 0))]) hx hb dX11_back_35 hl (k := 1) rfl rfl (by decide) rfl (fun ls hl => ?_)
      refine lv_goto (tgt := 16) hx hb dX11_back_38 (by decide) ?_
      exact ih _ _ _ _ _ h hW hS (lv_sub hl [1, 0] rfl)
theorem f_X11_back_e  (u : zU) : f_X11_back  u = z_let (z_up u 0 0 (0 : Int32)) (fun u1 => if (u1 0 3) = 0 then (some (false, u1)) else (f_X11_back_16 5000 (0 : Int32) u1)) := rfl
set_option maxRecDepth 100000 in
set_option maxHeartbeats 4000000 in
theorem c_X11_back (l : Launch) (D : zD) (A : Nat → Prop) (b : Nat)  (u : zU) {v : Bool} {u' : zU} (h : f_X11_back  u = some (v, u')) : z_M l D A b gM yX11_back cX11_back 2 (some .boolean) 0 0 [.ref (b + 0)] u (some (.int (bI v))) u' := by
  refine z_enter (by decide) (Nat.le_of_ble_eq_true rfl) ?_
  intro p e s m below meth c ls C0 hr hml hlk hW hS hl
  have hl : lv_has ls 2 [(0, .ref (b + 0))] := hl
  have hx := C0.1
  have hb := C0.2.1
  rw [f_X11_back_e] at h
  refine lv_aload_n hx hb dX11_back_0 rfl (lv_at hl 0 rfl) ?_
  refine lv_iconst (v := (0 : Int32)) hx hb dX11_back_1 (by decide) ?_
  refine z_puti C0 hW hS fl_X11_42 rfl rfl rfl rfl dX11_back_2 (fun H locs u1 e1 hW hS => ?_)
  have h := z_ly h e1
  clear e1
  refine lv_aload_n hx hb dX11_back_5 rfl (lv_at hl 0 rfl) ?_
  refine z_geti C0 hW fl_X11_360 rfl rfl dX11_back_6 ?_
  refine lv_if_ne (tgt := 14) hx hb dX11_back_9 (by decide) (fun hc => ?_) (fun hc => ?_)
  · have h := z_f h hc
    clear hc
    refine lv_iconst (v := (0 : Int32)) hx hb dX11_back_14 (by decide) ?_
    refine lv_istore_n (lv' := [(1, .int (0 : Int32)), (0, .ref (b + 0))]) hx hb dX11_back_15 rfl hl (by decide) rfl (fun ls hl => ?_)
    exact l_X11_back_16 C0 hr hml hlk 5000 _ _ _ _ _ h hW hS (lv_sub hl [1, 0] rfl)
  · have h := z_t h hc
    clear hc
    refine lv_iconst (v := (0 : Int32)) hx hb dX11_back_12 (by decide) ?_
    cases h
    exact z_zret (x := false) C0 hr hlk hW hS dX11_back_13
