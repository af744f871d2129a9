def f_X11_thrown  (u : zU) : Int32 :=
  u 0 0
theorem f_X11_thrown_e  (u : zU) : f_X11_thrown u = u 0 0 := rfl
set_option maxRecDepth 100000 in
set_option maxHeartbeats 4000000 in
theorem c_X11_thrown (l : Launch) (D : zD) (A : Nat → Prop) (b : Nat)  (u : zU) {v : Int32} (h : f_X11_thrown u = v) : z_M l D A b gM yX11_thrown cX11_thrown 1 (some .int) 0 0 [.ref (b + 0)] u (some (.int v)) u := by
  refine z_enter (by decide) (Nat.le_of_ble_eq_true rfl) ?_
  intro p e s m below meth c ls C0 hr hml hlk hW hS hl
  have hl : lv_has ls 1 [(0, .ref (b + 0))] := hl
  have hx := C0.1
  have hb := C0.2.1
  rw [f_X11_thrown_e] at h
  refine lv_aload_n hx hb dX11_thrown_0 rfl (lv_at hl 0 rfl) ?_
  refine z_geti C0 hW fl_X11_42 rfl rfl dX11_thrown_1 ?_
  cases h
  exact z_iret C0 hr hlk hW hS dX11_thrown_4
def f_X11_isIn (a0 : Int32) (a1 : Int32) (a2 : Int32) (u : zU) : Bool :=
  if a0 < a1 then (false) else (if a2 < a0 then (false) else (true))
theorem f_X11_isIn_e (a0 : Int32) (a1 : Int32) (a2 : Int32) (u : zU) : f_X11_isIn a0 a1 a2 u = if a0 < a1 then (false) else (if a2 < a0 then (false) else (true)) := rfl
set_option maxRecDepth 100000 in
set_option maxHeartbeats 4000000 in
theorem c_X11_isIn (l : Launch) (D : zD) (A : Nat → Prop) (b : Nat) (a0 : Int32) (a1 : Int32) (a2 : Int32) (u : zU) {v : Bool} (h : f_X11_isIn a0 a1 a2 u = v) : z_M l D A b gM yX11_isIn cX11_isIn 3 (some .boolean) 0 0 [.int a0, .int a1, .int a2] u (some (.int (bI v))) u := by
  refine z_enter (by decide) (Nat.le_of_ble_eq_true rfl) ?_
  intro p e s m below meth c ls C0 hr hml hlk hW hS hl
  have hl : lv_has ls 3 [(0, .int a0), (1, .int a1), (2, .int a2)] := hl
  have hx := C0.1
  have hb := C0.2.1
  rw [f_X11_isIn_e] at h
  refine lv_iload_n hx hb dX11_isIn_0 rfl (lv_at hl 0 rfl) ?_
  refine lv_iload_n hx hb dX11_isIn_1 rfl (lv_at hl 1 rfl) ?_
  refine lv_icmp_lt (tgt := 14) hx hb dX11_isIn_2 (by decide) (fun hc => ?_) (fun hc => ?_)
  · replace h := z_t h hc
    clear hc
    refine lv_iconst (v := (0 : Int32)) hx hb dX11_isIn_14 (by decide) ?_
    cases h
    exact z_zret (x := false) C0 hr hlk hW hS dX11_isIn_15
  · replace h := z_f h hc
    clear hc
    refine lv_iload_n hx hb dX11_isIn_5 rfl (lv_at hl 0 rfl) ?_
    refine lv_iload_n hx hb dX11_isIn_6 rfl (lv_at hl 2 rfl) ?_
    refine lv_icmp_gt (tgt := 14) hx hb dX11_isIn_7 (by decide) (fun hc => ?_) (fun hc => ?_)
    · replace h := z_t h hc
      clear hc
      refine lv_iconst (v := (0 : Int32)) hx hb dX11_isIn_14 (by decide) ?_
      cases h
      exact z_zret (x := false) C0 hr hlk hW hS dX11_isIn_15
    · replace h := z_f h hc
      clear hc
      refine lv_iconst (v := (1 : Int32)) hx hb dX11_isIn_10 (by decide) ?_
      refine lv_goto (tgt := 15) hx hb dX11_isIn_11 (by decide) ?_
      cases h
      exact z_zret (x := true) C0 hr hlk hW hS dX11_isIn_15
def f_X11_lesser (a0 : Int32) (a1 : Int32) (u : zU) : Int32 :=
  if a1 ≤ a0 then (a1) else (a0)
theorem f_X11_lesser_e (a0 : Int32) (a1 : Int32) (u : zU) : f_X11_lesser a0 a1 u = if a1 ≤ a0 then (a1) else (a0) := rfl
set_option maxRecDepth 100000 in
set_option maxHeartbeats 4000000 in
theorem c_X11_lesser (l : Launch) (D : zD) (A : Nat → Prop) (b : Nat) (a0 : Int32) (a1 : Int32) (u : zU) {v : Int32} (h : f_X11_lesser a0 a1 u = v) : z_M l D A b gM yX11_lesser cX11_lesser 2 (some .int) 0 0 [.int a0, .int a1] u (some (.int v)) u := by
  refine z_enter (by decide) (Nat.le_of_ble_eq_true rfl) ?_
  intro p e s m below meth c ls C0 hr hml hlk hW hS hl
  have hl : lv_has ls 2 [(0, .int a0), (1, .int a1)] := hl
  have hx := C0.1
  have hb := C0.2.1
  rw [f_X11_lesser_e] at h
  refine lv_iload_n hx hb dX11_lesser_0 rfl (lv_at hl 0 rfl) ?_
  refine lv_iload_n hx hb dX11_lesser_1 rfl (lv_at hl 1 rfl) ?_
  refine lv_icmp_ge (tgt := 9) hx hb dX11_lesser_2 (by decide) (fun hc => ?_) (fun hc => ?_)
  · replace h := z_t h hc
    clear hc
    refine lv_iload_n hx hb dX11_lesser_9 rfl (lv_at hl 1 rfl) ?_
    cases h
    exact z_iret C0 hr hlk hW hS dX11_lesser_10
  · replace h := z_f h hc
    clear hc
    refine lv_iload_n hx hb dX11_lesser_5 rfl (lv_at hl 0 rfl) ?_
    refine lv_goto (tgt := 10) hx hb dX11_lesser_6 (by decide) ?_
    cases h
    exact z_iret C0 hr hlk hW hS dX11_lesser_10
def f_X11_greater (a0 : Int32) (a1 : Int32) (u : zU) : Int32 :=
  if a0 ≤ a1 then (a1) else (a0)
theorem f_X11_greater_e (a0 : Int32) (a1 : Int32) (u : zU) : f_X11_greater a0 a1 u = if a0 ≤ a1 then (a1) else (a0) := rfl
set_option maxRecDepth 100000 in
set_option maxHeartbeats 4000000 in
theorem c_X11_greater (l : Launch) (D : zD) (A : Nat → Prop) (b : Nat) (a0 : Int32) (a1 : Int32) (u : zU) {v : Int32} (h : f_X11_greater a0 a1 u = v) : z_M l D A b gM yX11_greater cX11_greater 2 (some .int) 0 0 [.int a0, .int a1] u (some (.int v)) u := by
  refine z_enter (by decide) (Nat.le_of_ble_eq_true rfl) ?_
  intro p e s m below meth c ls C0 hr hml hlk hW hS hl
  have hl : lv_has ls 2 [(0, .int a0), (1, .int a1)] := hl
  have hx := C0.1
  have hb := C0.2.1
  rw [f_X11_greater_e] at h
  refine lv_iload_n hx hb dX11_greater_0 rfl (lv_at hl 0 rfl) ?_
  refine lv_iload_n hx hb dX11_greater_1 rfl (lv_at hl 1 rfl) ?_
  refine lv_icmp_le (tgt := 9) hx hb dX11_greater_2 (by decide) (fun hc => ?_) (fun hc => ?_)
  · replace h := z_t h hc
    clear hc
    refine lv_iload_n hx hb dX11_greater_9 rfl (lv_at hl 1 rfl) ?_
    cases h
    exact z_iret C0 hr hlk hW hS dX11_greater_10
  · replace h := z_f h hc
    clear hc
    refine lv_iload_n hx hb dX11_greater_5 rfl (lv_at hl 0 rfl) ?_
    refine lv_goto (tgt := 10) hx hb dX11_greater_6 (by decide) ?_
    cases h
    exact z_iret C0 hr hlk hW hS dX11_greater_10
def f_X11_isOf (a0 : Int32) (a1 : Int32) (u : zU) : Bool :=
  if ((a0 >>> (a1 &&& 31)) &&& (1 : Int32)) = (1 : Int32) then (true) else (false)
theorem f_X11_isOf_e (a0 : Int32) (a1 : Int32) (u : zU) : f_X11_isOf a0 a1 u = if ((a0 >>> (a1 &&& 31)) &&& (1 : Int32)) = (1 : Int32) then (true) else (false) := rfl
set_option maxRecDepth 100000 in
set_option maxHeartbeats 4000000 in
theorem c_X11_isOf (l : Launch) (D : zD) (A : Nat → Prop) (b : Nat) (a0 : Int32) (a1 : Int32) (u : zU) {v : Bool} (h : f_X11_isOf a0 a1 u = v) : z_M l D A b gM yX11_isOf cX11_isOf 2 (some .boolean) 0 0 [.int a0, .int a1] u (some (.int (bI v))) u := by
  refine z_enter (by decide) (Nat.le_of_ble_eq_true rfl) ?_
  intro p e s m below meth c ls C0 hr hml hlk hW hS hl
  have hl : lv_has ls 2 [(0, .int a0), (1, .int a1)] := hl
  have hx := C0.1
  have hb := C0.2.1
  rw [f_X11_isOf_e] at h
  refine lv_iload_n hx hb dX11_isOf_0 rfl (lv_at hl 0 rfl) ?_
  refine lv_iload_n hx hb dX11_isOf_1 rfl (lv_at hl 1 rfl) ?_
  refine lv_ishr hx hb dX11_isOf_2 ?_
  refine lv_iconst (v := (1 : Int32)) hx hb dX11_isOf_3 (by decide) ?_
  refine lv_iand hx hb dX11_isOf_4 ?_
  refine lv_iconst (v := (1 : Int32)) hx hb dX11_isOf_5 (by decide) ?_
  refine lv_icmp_ne (tgt := 13) hx hb dX11_isOf_6 (by decide) (fun hc => ?_) (fun hc => ?_)
  · replace h := z_f h hc
    clear hc
    refine lv_iconst (v := (0 : Int32)) hx hb dX11_isOf_13 (by decide) ?_
    cases h
    exact z_zret (x := false) C0 hr hlk hW hS dX11_isOf_14
  · replace h := z_t h hc
    clear hc
    refine lv_iconst (v := (1 : Int32)) hx hb dX11_isOf_9 (by decide) ?_
    refine lv_goto (tgt := 14) hx hb dX11_isOf_10 (by decide) ?_
    cases h
    exact z_zret (x := true) C0 hr hlk hW hS dX11_isOf_14
def f_X11_bits_4 : Nat → Int32 → Int32 → Int32 → zU → Option (Int32)
  | 0, _, _, _, _ => none
  | n + 1, x0, x1, x2, u =>
    if (31 : Int32) ≤ x2 then (some x1) else (z_let (x1 + ((x0 >>> (x2 &&& 31)) &&& (1 : Int32))) (fun z1 => f_X11_bits_4 n x0 z1 (x2 + (1 : Int32)) u))
theorem f_X11_bits_4_s (n : Nat) (x0 : Int32) (x1 : Int32) (x2 : Int32) (u : zU) : f_X11_bits_4 (n + 1) x0 x1 x2 u = if (31 : Int32) ≤ x2 then (some x1) else (z_let (x1 + ((x0 >>> (x2 &&& 31)) &&& (1 : Int32))) (fun z1 => f_X11_bits_4 n x0 z1 (x2 + (1 : Int32)) u)) := rfl
def f_X11_bits (a0 : Int32) (u : zU) : Option (Int32) :=
  f_X11_bits_4 5000 a0 (0 : Int32) (0 : Int32) u
set_option maxRecDepth 100000 in
set_option maxHeartbeats 4000000 in
theorem l_X11_bits_4 {l : Launch} {D : zD} {A : Nat → Prop} {b : Nat} {p : Program} {e : Env} {s : State} {m : MethodId} {args : Array Value} {below : List Frame} {meth : Method} {c : Code} {v : Int32} {u : zU} (C0 : z_C p c cX11_bits s m args yX11_bits.cls D A) (hr : meth.sig.returnType = (some .int)) (hml : c.maxLocals = 3) (hlk : meth.locks = false) : ∀ (n : Nat) (x0 : Int32) (x1 : Int32) (x2 : Int32) (H : Heap) (locs : List Loc) (ls : Array Slot), f_X11_bits_4 n x0 x1 x2 u = some v → z_W D A b gM u H → va_S A s.heap H locs → lv_has ls 3 [(0, .int x0), (1, .int x1), (2, .int x2)] → W p l e { frames := 0, cells := 0, slots := 0, locals := 0 } s m args below meth c H locs 0 0 (z_End D A b gM below args s (some (.int v)) u) (F0 m 4 ls []) := by
  have hx := C0.1
  have hb := C0.2.1
  intro n
  induction n with
  | zero => intro x0 x1 x2 H locs ls h hW hS hl; cases h
  | succ n ih =>
    intro x0 x1 x2 H locs ls h hW hS hl
    rw [f_X11_bits_4_s] at h
    refine lv_iload_n hx hb dX11_bits_4 rfl (lv_at hl 2 rfl) ?_
    refine lv_bipush (v := (31 : Int32)) hx hb dX11_bits_5 (by decide) ?_
    refine lv_icmp_ge (tgt := 24) hx hb dX11_bits_7 (by decide) (fun hc => ?_) (fun hc => ?_)
    · replace h := z_t h hc
      clear hc
      refine lv_iload_n hx hb dX11_bits_24 rfl (lv_at hl 1 rfl) ?_
      cases h
      exact z_iret C0 hr hlk hW hS dX11_bits_25
    · replace h := z_f h hc
      clear hc
      refine lv_iload_n hx hb dX11_bits_10 rfl (lv_at hl 1 rfl) ?_
      refine lv_iload_n hx hb dX11_bits_11 rfl (lv_at hl 0 rfl) ?_
      refine lv_iload_n hx hb dX11_bits_12 rfl (lv_at hl 2 rfl) ?_
      refine lv_ishr hx hb dX11_bits_13 ?_
      refine lv_iconst (v := (1 : Int32)) hx hb dX11_bits_14 (by decide) ?_
      refine lv_iand hx hb dX11_bits_15 ?_
      refine lv_iadd hx hb dX11_bits_16 ?_
      refine lv_topi (fun z1 e1 => ?_)
      replace h := z_ly h e1
      clear e1
      refine lv_istore_n (lv' := [(1, .int z1), (0, .int x0), (2, .int x2)]) hx hb dX11_bits_17 rfl hl (by decide) rfl (fun ls hl => ?_)
      refine lv_iinc (v := x2 + (1 : Int32)) (lv' := [(2, .int (x2 + (1 : Int32))), (1, .int z1), (0, .int x0)]) hx hb dX11_bits_18 hl (k := 2) rfl rfl (by decide) rfl (fun ls hl => ?_)
      refine lv_goto (tgt := 4) hx hb dX11_bits_21 (by decide) ?_
      exact ih _ _ _ _ _ _ h hW hS (lv_sub hl [2, 1, 0] rfl)
theorem f_X11_bits_e (a0 : Int32) (u : zU) : f_X11_bits a0 u = f_X11_bits_4 5000 a0 (0 : Int32) (0 : Int32) u := rfl
set_option maxRecDepth 100000 in
set_option maxHeartbeats 4000000 in
theorem c_X11_bits (l : Launch) (D : zD) (A : Nat → Prop) (b : Nat) (a0 : Int32) (u : zU) {v : Int32} (h : f_X11_bits a0 u = some v) : z_M l D A b gM yX11_bits cX11_bits 3 (some .int) 0 0 [.int a0] u (some (.int v)) u := by
  refine z_enter (by decide) (Nat.le_of_ble_eq_true rfl) ?_
  intro p e s m below meth c ls C0 hr hml hlk hW hS hl
  have hl : lv_has ls 3 [(0, .int a0)] := hl
  have hx := C0.1
  have hb := C0.2.1
  rw [f_X11_bits_e] at h
  refine lv_iconst (v := (0 : Int32)) hx hb dX11_bits_0 (by decide) ?_
  refine lv_istore_n (lv' := [(1, .int (0 : Int32)), (0, .int a0)]) hx hb dX11_bits_1 rfl hl (by decide) rfl (fun ls hl => ?_)
  refine lv_iconst (v := (0 : Int32)) hx hb dX11_bits_2 (by decide) ?_
  refine lv_istore_n (lv' := [(2, .int (0 : Int32)), (1, .int (0 : Int32)), (0, .int a0)]) hx hb dX11_bits_3 rfl hl (by decide) rfl (fun ls hl => ?_)
  exact l_X11_bits_4 C0 hr hml hlk 5000 _ _ _ _ _ _ h hW hS (lv_sub hl [2, 1, 0] rfl)
def f_X11_of (a1 : Int32) (a2 : Int32) (u : zU) : Option (Int32) :=
  if z_in (((25 : Int32) + ((4 : Int32) * a1)) + a2) 705 = true then (z_let (u 1 (((25 : Int32) + ((4 : Int32) * a1)) + a2).toNatClampNeg) (fun z1 => some z1)) else none
theorem f_X11_of_e (a1 : Int32) (a2 : Int32) (u : zU) : f_X11_of a1 a2 u = if z_in (((25 : Int32) + ((4 : Int32) * a1)) + a2) 705 = true then (z_let (u 1 (((25 : Int32) + ((4 : Int32) * a1)) + a2).toNatClampNeg) (fun z1 => some z1)) else none := rfl
set_option maxRecDepth 100000 in
set_option maxHeartbeats 4000000 in
theorem c_X11_of (l : Launch) (D : zD) (A : Nat → Prop) (b : Nat) (a1 : Int32) (a2 : Int32) (u : zU) {v : Int32} (h : f_X11_of a1 a2 u = some v) : z_M l D A b gM yX11_of cX11_of 3 (some .int) 0 0 [.ref (b + 0), .int a1, .int a2] u (some (.int v)) u := by
  refine z_enter (by decide) (Nat.le_of_ble_eq_true rfl) ?_
  intro p e s m below meth c ls C0 hr hml hlk hW hS hl
  have hl : lv_has ls 3 [(0, .ref (b + 0)), (1, .int a1), (2, .int a2)] := hl
  have hx := C0.1
  have hb := C0.2.1
  rw [f_X11_of_e] at h
  refine lv_aload_n hx hb dX11_of_0 rfl (lv_at hl 0 rfl) ?_
  refine z_getr (o := 1) C0 hW fl_X11_7 rfl rfl rfl dX11_of_1 ?_
  refine lv_bipush (v := (25 : Int32)) hx hb dX11_of_4 (by decide) ?_
  refine lv_iconst (v := (4 : Int32)) hx hb dX11_of_6 (by decide) ?_
  refine lv_iload_n hx hb dX11_of_7 rfl (lv_at hl 1 rfl) ?_
  refine lv_imul hx hb dX11_of_8 ?_
  refine lv_iadd hx hb dX11_of_9 ?_
  refine lv_iload_n hx hb dX11_of_10 rfl (lv_at hl 2 rfl) ?_
  refine lv_iadd hx hb dX11_of_11 ?_
  replace h := z_if h
  obtain ⟨hin, h⟩ := h
  refine z_iald (n := 705) C0 hW rfl rfl hin rfl dX11_of_12 ?_
  clear hin
  refine lv_topi (fun z1 e1 => ?_)
  replace h := z_ly h e1
  clear e1
  cases h
  exact z_iret C0 hr hlk hW hS dX11_of_13
def f_X11_put (a1 : Int32) (a2 : Int32) (a3 : Int32) (u : zU) : Option (zU) :=
  if z_in (((25 : Int32) + ((4 : Int32) * a1)) + a2) 705 = true then (z_let (z_up u 1 (((25 : Int32) + ((4 : Int32) * a1)) + a2).toNatClampNeg a3) (fun u1 => some u1)) else none
theorem f_X11_put_e (a1 : Int32) (a2 : Int32) (a3 : Int32) (u : zU) : f_X11_put a1 a2 a3 u = if z_in (((25 : Int32) + ((4 : Int32) * a1)) + a2) 705 = true then (z_let (z_up u 1 (((25 : Int32) + ((4 : Int32) * a1)) + a2).toNatClampNeg a3) (fun u1 => some u1)) else none := rfl
set_option maxRecDepth 100000 in
set_option maxHeartbeats 4000000 in
theorem c_X11_put (l : Launch) (D : zD) (A : Nat → Prop) (b : Nat) (a1 : Int32) (a2 : Int32) (a3 : Int32) (u : zU) {u' : zU} (h : f_X11_put a1 a2 a3 u = some u') : z_M l D A b gM yX11_put cX11_put 4 none 0 0 [.ref (b + 0), .int a1, .int a2, .int a3] u none u' := by
  refine z_enter (by decide) (Nat.le_of_ble_eq_true rfl) ?_
  intro p e s m below meth c ls C0 hr hml hlk hW hS hl
  have hl : lv_has ls 4 [(0, .ref (b + 0)), (1, .int a1), (2, .int a2), (3, .int a3)] := hl
  have hx := C0.1
  have hb := C0.2.1
  rw [f_X11_put_e] at h
  refine lv_aload_n hx hb dX11_put_0 rfl (lv_at hl 0 rfl) ?_
  refine z_getr (o := 1) C0 hW fl_X11_7 rfl rfl rfl dX11_put_1 ?_
  refine lv_bipush (v := (25 : Int32)) hx hb dX11_put_4 (by decide) ?_
  refine lv_iconst (v := (4 : Int32)) hx hb dX11_put_6 (by decide) ?_
  refine lv_iload_n hx hb dX11_put_7 rfl (lv_at hl 1 rfl) ?_
  refine lv_imul hx hb dX11_put_8 ?_
  refine lv_iadd hx hb dX11_put_9 ?_
  refine lv_iload_n hx hb dX11_put_10 rfl (lv_at hl 2 rfl) ?_
  refine lv_iadd hx hb dX11_put_11 ?_
  refine lv_iload_n hx hb dX11_put_12 rfl (lv_at hl 3 rfl) ?_
  replace h := z_if h
  obtain ⟨hin, h⟩ := h
  refine z_iast (n := 705) C0 hW hS rfl rfl hin rfl dX11_put_13 (fun H locs u1 e1 hW hS => ?_)
  replace h := z_ly h e1
  clear e1
  cases h
  exact z_vret C0 hr hlk hW hS dX11_put_14
def f_X11_isRider (a1 : Int32) (u : zU) : Bool :=
  z_let (f_X11_isIn a1 (0 : Int32) ((u 1 3) - (1 : Int32)) u) (fun t1 => t1)
theorem f_X11_isRider_e (a1 : Int32) (u : zU) : f_X11_isRider a1 u = z_let (f_X11_isIn a1 (0 : Int32) ((u 1 3) - (1 : Int32)) u) (fun t1 => t1) := rfl
set_option maxRecDepth 100000 in
set_option maxHeartbeats 4000000 in
theorem c_X11_isRider (l : Launch) (D : zD) (A : Nat → Prop) (b : Nat) (a1 : Int32) (u : zU) {v : Bool} (h : f_X11_isRider a1 u = v) : z_M l D A b gM yX11_isRider cX11_isRider 2 (some .boolean) 1 22 [.ref (b + 0), .int a1] u (some (.int (bI v))) u := by
  refine z_enter (by decide) (Nat.le_of_ble_eq_true rfl) ?_
  intro p e s m below meth c ls C0 hr hml hlk hW hS hl
  have hl : lv_has ls 2 [(0, .ref (b + 0)), (1, .int a1)] := hl
  have hx := C0.1
  have hb := C0.2.1
  rw [f_X11_isRider_e] at h
  refine lv_iload_n hx hb dX11_isRider_0 rfl (lv_at hl 1 rfl) ?_
  refine lv_iconst (v := (0 : Int32)) hx hb dX11_isRider_1 (by decide) ?_
  refine lv_aload_n hx hb dX11_isRider_2 rfl (lv_at hl 0 rfl) ?_
  refine z_getr (o := 1) C0 hW fl_X11_7 rfl rfl rfl dX11_isRider_3 ?_
  refine lv_iconst (v := (3 : Int32)) hx hb dX11_isRider_6 (by decide) ?_
  refine z_iald (k := 3) (n := 705) C0 hW rfl rfl (by decide) (by decide) dX11_isRider_7 ?_
  refine lv_iconst (v := (1 : Int32)) hx hb dX11_isRider_8 (by decide) ?_
  refine lv_isub hx hb dX11_isRider_9 ?_
  obtain ⟨t1, hq⟩ : ∃ y, f_X11_isIn a1 (0 : Int32) ((u 1 3) - (1 : Int32)) u = y := ⟨_, rfl⟩
  replace h := z_lz h hq
  refine z_csi (As := [.int a1, .int (0 : Int32), .int ((u 1 3) - (1 : Int32))]) C0 hml hl.1 hW hS (c_X11_isIn l D A b a1 (0 : Int32) ((u 1 3) - (1 : Int32)) u hq) ms_X11_45 ⟨Nat.le_of_ble_eq_true rfl, Nat.le_of_ble_eq_true rfl⟩ rfl rfl (Nat.le_of_ble_eq_true rfl) dX11_isRider_10 (fun H locs hW hS => ?_)
  clear hq
  cases h
  exact z_zret C0 hr hlk hW hS dX11_isRider_13
def f_X11_isCradle (a0 : Int32) (u : zU) : Bool :=
  z_let (f_X11_isIn a0 (0 : Int32) (7 : Int32) u) (fun t1 => t1)
theorem f_X11_isCradle_e (a0 : Int32) (u : zU) : f_X11_isCradle a0 u = z_let (f_X11_isIn a0 (0 : Int32) (7 : Int32) u) (fun t1 => t1) := rfl
set_option maxRecDepth 100000 in
set_option maxHeartbeats 4000000 in
theorem c_X11_isCradle (l : Launch) (D : zD) (A : Nat → Prop) (b : Nat) (a0 : Int32) (u : zU) {v : Bool} (h : f_X11_isCradle a0 u = v) : z_M l D A b gM yX11_isCradle cX11_isCradle 1 (some .boolean) 1 22 [.int a0] u (some (.int (bI v))) u := by
  refine z_enter (by decide) (Nat.le_of_ble_eq_true rfl) ?_
  intro p e s m below meth c ls C0 hr hml hlk hW hS hl
  have hl : lv_has ls 1 [(0, .int a0)] := hl
  have hx := C0.1
  have hb := C0.2.1
  rw [f_X11_isCradle_e] at h
  refine lv_iload_n hx hb dX11_isCradle_0 rfl (lv_at hl 0 rfl) ?_
  refine lv_iconst (v := (0 : Int32)) hx hb dX11_isCradle_1 (by decide) ?_
  refine lv_bipush (v := (7 : Int32)) hx hb dX11_isCradle_2 (by decide) ?_
  obtain ⟨t1, hq⟩ : ∃ y, f_X11_isIn a0 (0 : Int32) (7 : Int32) u = y := ⟨_, rfl⟩
  replace h := z_lz h hq
  refine z_csi (As := [.int a0, .int (0 : Int32), .int (7 : Int32)]) C0 hml hl.1 hW hS (c_X11_isIn l D A b a0 (0 : Int32) (7 : Int32) u hq) ms_X11_45 ⟨Nat.le_of_ble_eq_true rfl, Nat.le_of_ble_eq_true rfl⟩ rfl rfl (Nat.le_of_ble_eq_true rfl) dX11_isCradle_4 (fun H locs hW hS => ?_)
  clear hq
  cases h
  exact z_zret C0 hr hlk hW hS dX11_isCradle_7
def f_X11_isParty (a0 : Int32) (u : zU) : Bool :=
  z_let (f_X11_isIn a0 (0 : Int32) (3 : Int32) u) (fun t1 => t1)
theorem f_X11_isParty_e (a0 : Int32) (u : zU) : f_X11_isParty a0 u = z_let (f_X11_isIn a0 (0 : Int32) (3 : Int32) u) (fun t1 => t1) := rfl
set_option maxRecDepth 100000 in
set_option maxHeartbeats 4000000 in
theorem c_X11_isParty (l : Launch) (D : zD) (A : Nat → Prop) (b : Nat) (a0 : Int32) (u : zU) {v : Bool} (h : f_X11_isParty a0 u = v) : z_M l D A b gM yX11_isParty cX11_isParty 1 (some .boolean) 1 22 [.int a0] u (some (.int (bI v))) u := by
  refine z_enter (by decide) (Nat.le_of_ble_eq_true rfl) ?_
  intro p e s m below meth c ls C0 hr hml hlk hW hS hl
  have hl : lv_has ls 1 [(0, .int a0)] := hl
  have hx := C0.1
  have hb := C0.2.1
  rw [f_X11_isParty_e] at h
  refine lv_iload_n hx hb dX11_isParty_0 rfl (lv_at hl 0 rfl) ?_
  refine lv_iconst (v := (0 : Int32)) hx hb dX11_isParty_1 (by decide) ?_
  refine lv_iconst (v := (3 : Int32)) hx hb dX11_isParty_2 (by decide) ?_
  obtain ⟨t1, hq⟩ : ∃ y, f_X11_isIn a0 (0 : Int32) (3 : Int32) u = y := ⟨_, rfl⟩
  replace h := z_lz h hq
  refine z_csi (As := [.int a0, .int (0 : Int32), .int (3 : Int32)]) C0 hml hl.1 hW hS (c_X11_isIn l D A b a0 (0 : Int32) (3 : Int32) u hq) ms_X11_45 ⟨Nat.le_of_ble_eq_true rfl, Nat.le_of_ble_eq_true rfl⟩ rfl rfl (Nat.le_of_ble_eq_true rfl) dX11_isParty_3 (fun H locs hW hS => ?_)
  clear hq
  cases h
  exact z_zret C0 hr hlk hW hS dX11_isParty_6
def f_X11_waits (a1 : Int32) (u : zU) : Option (Bool) :=
  (f_X11_of a1 (0 : Int32) u).bind (fun r1 => if r1 = (-1 : Int32) then (some true) else (some false))
theorem f_X11_waits_e (a1 : Int32) (u : zU) : f_X11_waits a1 u = (f_X11_of a1 (0 : Int32) u).bind (fun r1 => if r1 = (-1 : Int32) then (some true) else (some false)) := rfl
set_option maxRecDepth 100000 in
set_option maxHeartbeats 4000000 in
theorem c_X11_waits (l : Launch) (D : zD) (A : Nat → Prop) (b : Nat) (a1 : Int32) (u : zU) {v : Bool} (h : f_X11_waits a1 u = some v) : z_M l D A b gM yX11_waits cX11_waits 2 (some .boolean) 1 22 [.ref (b + 0), .int a1] u (some (.int (bI v))) u := by
  refine z_enter (by decide) (Nat.le_of_ble_eq_true rfl) ?_
  intro p e s m below meth c ls C0 hr hml hlk hW hS hl
  have hl : lv_has ls 2 [(0, .ref (b + 0)), (1, .int a1)] := hl
  have hx := C0.1
  have hb := C0.2.1
  rw [f_X11_waits_e] at h
  refine lv_aload_n hx hb dX11_waits_0 rfl (lv_at hl 0 rfl) ?_
  refine lv_iload_n hx hb dX11_waits_1 rfl (lv_at hl 1 rfl) ?_
  refine lv_iconst (v := (0 : Int32)) hx hb dX11_waits_2 (by decide) ?_
  replace h := z_bd h
  obtain ⟨r1, hq, h⟩ := h
  refine z_cvi (As := [.int a1, .int (0 : Int32)]) C0 hml hl.1 hW hS (c_X11_of l D A b a1 (0 : Int32) u hq) mv_X11_49 rfl ⟨Nat.le_of_ble_eq_true rfl, Nat.le_of_ble_eq_true rfl⟩ rfl rfl (Nat.le_of_ble_eq_true rfl) dX11_waits_3 (fun H locs hW hS => ?_)
  clear hq
  refine lv_iconst (v := (-1 : Int32)) hx hb dX11_waits_6 (by decide) ?_
  refine lv_icmp_ne (tgt := 14) hx hb dX11_waits_7 (by decide) (fun hc => ?_) (fun hc => ?_)
  · replace h := z_f h hc
    clear hc
    refine lv_iconst (v := (0 : Int32)) hx hb dX11_waits_14 (by decide) ?_
    cases h
    exact z_zret (x := false) C0 hr hlk hW hS dX11_waits_15
  · replace h := z_t h hc
    clear hc
    refine lv_iconst (v := (1 : Int32)) hx hb dX11_waits_10 (by decide) ?_
    refine lv_goto (tgt := 15) hx hb dX11_waits_11 (by decide) ?_
    cases h
    exact z_zret (x := true) C0 hr hlk hW hS dX11_waits_15
def f_X11_those_4 : Nat → Int32 → Int32 → Int32 → zU → Option (Int32)
  | 0, _, _, _, _ => none
  | n + 1, x1, x2, x3, u =>
    if (u 1 3) ≤ x3 then (some x2) else ((f_X11_of x3 (0 : Int32) u).bind (fun r1 => if r1 = x1 then (z_let (x2 ||| ((1 : Int32) <<< (x3 &&& 31))) (fun z3 => f_X11_those_4 n x1 z3 (x3 + (1 : Int32)) u)) else (z_let (x2 ||| (0 : Int32)) (fun z2 => f_X11_those_4 n x1 z2 (x3 + (1 : Int32)) u))))
theorem f_X11_those_4_s (n : Nat) (x1 : Int32) (x2 : Int32) (x3 : Int32) (u : zU) : f_X11_those_4 (n + 1) x1 x2 x3 u = if (u 1 3) ≤ x3 then (some x2) else ((f_X11_of x3 (0 : Int32) u).bind (fun r1 => if r1 = x1 then (z_let (x2 ||| ((1 : Int32) <<< (x3 &&& 31))) (fun z3 => f_X11_those_4 n x1 z3 (x3 + (1 : Int32)) u)) else (z_let (x2 ||| (0 : Int32)) (fun z2 => f_X11_those_4 n x1 z2 (x3 + (1 : Int32)) u)))) := rfl
def f_X11_those (a1 : Int32) (u : zU) : Option (Int32) :=
  f_X11_those_4 5000 a1 (0 : Int32) (0 : Int32) u
set_option maxRecDepth 100000 in
set_option maxHeartbeats 4000000 in
theorem l_X11_those_4 {l : Launch} {D : zD} {A : Nat → Prop} {b : Nat} {p : Program} {e : Env} {s : State} {m : MethodId} {args : Array Value} {below : List Frame} {meth : Method} {c : Code} {v : Int32} {u : zU} (C0 : z_C p c cX11_those s m args yX11_those.cls D A) (hr : meth.sig.returnType = (some .int)) (hml : c.maxLocals = 4) (hlk : meth.locks = false) : ∀ (n : Nat) (x1 : Int32) (x2 : Int32) (x3 : Int32) (H : Heap) (locs : List Loc) (ls : Array Slot), f_X11_those_4 n x1 x2 x3 u = some v → z_W D A b gM u H → va_S A s.heap H locs → lv_has ls 4 [(0, .ref (b + 0)), (1, .int x1), (2, .int x2), (3, .int x3)] → W p l e { frames := 1, cells := 0, slots := 0, locals := 22 } s m args below meth c H locs 0 0 (z_End D A b gM below args s (some (.int v)) u) (F0 m 4 ls []) := by
  have hx := C0.1
  have hb := C0.2.1
  intro n
  induction n with
  | zero => intro x1 x2 x3 H locs ls h hW hS hl; cases h
  | succ n ih =>
    intro x1 x2 x3 H locs ls h hW hS hl
    rw [f_X11_those_4_s] at h
    refine lv_iload_n hx hb dX11_those_4 rfl (lv_at hl 3 rfl) ?_
    refine lv_aload_n hx hb dX11_those_5 rfl (lv_at hl 0 rfl) ?_
    refine z_getr (o := 1) C0 hW fl_X11_7 rfl rfl rfl dX11_those_6 ?_
    refine lv_iconst (v := (3 : Int32)) hx hb dX11_those_9 (by decide) ?_
    refine z_iald (k := 3) (n := 705) C0 hW rfl rfl (by decide) (by decide) dX11_those_10 ?_
    refine lv_icmp_ge (tgt := 40) hx hb dX11_those_11 (by decide) (fun hc => ?_) (fun hc => ?_)
    · replace h := z_t h hc
      clear hc
      refine lv_iload_n hx hb dX11_those_40 rfl (lv_at hl 2 rfl) ?_
      cases h
      exact z_iret C0 hr hlk hW hS dX11_those_41
    · replace h := z_f h hc
      clear hc
      refine lv_iload_n hx hb dX11_those_14 rfl (lv_at hl 2 rfl) ?_
      refine lv_aload_n hx hb dX11_those_15 rfl (lv_at hl 0 rfl) ?_
      refine lv_iload_n hx hb dX11_those_16 rfl (lv_at hl 3 rfl) ?_
      refine lv_iconst (v := (0 : Int32)) hx hb dX11_those_17 (by decide) ?_
      replace h := z_bd h
      obtain ⟨r1, hq, h⟩ := h
      refine z_cvi (As := [.int x3, .int (0 : Int32)]) C0 hml hl.1 hW hS (c_X11_of l D A b x3 (0 : Int32) u hq) mv_X11_49 rfl ⟨Nat.le_of_ble_eq_true rfl, Nat.le_of_ble_eq_true rfl⟩ rfl rfl (Nat.le_of_ble_eq_true rfl) dX11_those_18 (fun H locs hW hS => ?_)
      clear hq
      refine lv_iload_n hx hb dX11_those_21 rfl (lv_at hl 1 rfl) ?_
      refine lv_icmp_ne (tgt := 31) hx hb dX11_those_22 (by decide) (fun hc => ?_) (fun hc => ?_)
      · replace h := z_f h hc
        clear hc
        refine lv_iconst (v := (0 : Int32)) hx hb dX11_those_31 (by decide) ?_
        refine lv_ior hx hb dX11_those_32 ?_
        refine lv_topi (fun z2 e1 => ?_)
        replace h := z_ly h e1
        clear e1
        refine lv_istore_n (lv' := [(2, .int z2), (0, .ref (b + 0)), (1, .int x1), (3, .int x3)]) hx hb dX11_those_33 rfl hl (by decide) rfl (fun ls hl => ?_)
        refine lv_iinc (v := x3 + (1 : Int32)) (lv' := [(3, .int (x3 + (1 : Int32))), (2, .int z2), (0, .ref (b + 0)), (1, .int x1)]) hx hb dX11_those_34 hl (k := 3) rfl rfl (by decide) rfl (fun ls hl => ?_)
        refine lv_goto (tgt := 4) hx hb dX11_those_37 (by decide) ?_
        exact ih _ _ _ _ _ _ h hW hS (lv_sub hl [2, 3, 1, 0] rfl)
      · replace h := z_t h hc
        clear hc
        refine lv_iconst (v := (1 : Int32)) hx hb dX11_those_25 (by decide) ?_
        refine lv_iload_n hx hb dX11_those_26 rfl (lv_at hl 3 rfl) ?_
        refine lv_ishl hx hb dX11_those_27 ?_
        refine lv_goto (tgt := 32) hx hb dX11_those_28 (by decide) ?_
        refine lv_ior hx hb dX11_those_32 ?_
        refine lv_topi (fun z3 e1 => ?_)
        replace h := z_ly h e1
        clear e1
        refine lv_istore_n (lv' := [(2, .int z3), (0, .ref (b + 0)), (1, .int x1), (3, .int x3)]) hx hb dX11_those_33 rfl hl (by decide) rfl (fun ls hl => ?_)
        refine lv_iinc (v := x3 + (1 : Int32)) (lv' := [(3, .int (x3 + (1 : Int32))), (2, .int z3), (0, .ref (b + 0)), (1, .int x1)]) hx hb dX11_those_34 hl (k := 3) rfl rfl (by decide) rfl (fun ls hl => ?_)
        refine lv_goto (tgt := 4) hx hb dX11_those_37 (by decide) ?_
        exact ih _ _ _ _ _ _ h hW hS (lv_sub hl [2, 3, 1, 0] rfl)
theorem f_X11_those_e (a1 : Int32) (u : zU) : f_X11_those a1 u = f_X11_those_4 5000 a1 (0 : Int32) (0 : Int32) u := rfl
set_option maxRecDepth 100000 in
set_option maxHeartbeats 4000000 in
theorem c_X11_those (l : Launch) (D : zD) (A : Nat → Prop) (b : Nat) (a1 : Int32) (u : zU) {v : Int32} (h : f_X11_those a1 u = some v) : z_M l D A b gM yX11_those cX11_those 4 (some .int) 1 22 [.ref (b + 0), .int a1] u (some (.int v)) u := by
  refine z_enter (by decide) (Nat.le_of_ble_eq_true rfl) ?_
  intro p e s m below meth c ls C0 hr hml hlk hW hS hl
  have hl : lv_has ls 4 [(0, .ref (b + 0)), (1, .int a1)] := hl
  have hx := C0.1
  have hb := C0.2.1
  rw [f_X11_those_e] at h
  refine lv_iconst (v := (0 : Int32)) hx hb dX11_those_0 (by decide) ?_
  refine lv_istore_n (lv' := [(2, .int (0 : Int32)), (0, .ref (b + 0)), (1, .int a1)]) hx hb dX11_those_1 rfl hl (by decide) rfl (fun ls hl => ?_)
  refine lv_iconst (v := (0 : Int32)) hx hb dX11_those_2 (by decide) ?_
  refine lv_istore_n (lv' := [(3, .int (0 : Int32)), (2, .int (0 : Int32)), (0, .ref (b + 0)), (1, .int a1)]) hx hb dX11_those_3 rfl hl (by decide) rfl (fun ls hl => ?_)
  exact l_X11_those_4 C0 hr hml hlk 5000 _ _ _ _ _ _ h hW hS (lv_sub hl [2, 3, 1, 0] rfl)
def f_X11_hasRoom (a1 : Int32) (u : zU) : Option (Bool) :=
  if z_in ((17 : Int32) + a1) 705 = true then (z_let (u 1 ((17 : Int32) + a1).toNatClampNeg) (fun z1 => if z1 ≤ 0 then (some false) else ((f_X11_those a1 u).bind (fun r2 => (f_X11_bits r2 u).bind (fun r3 => if (2 : Int32) ≤ r3 then (some false) else (some true)))))) else none
theorem f_X11_hasRoom_e (a1 : Int32) (u : zU) : f_X11_hasRoom a1 u = if z_in ((17 : Int32) + a1) 705 = true then (z_let (u 1 ((17 : Int32) + a1).toNatClampNeg) (fun z1 => if z1 ≤ 0 then (some false) else ((f_X11_those a1 u).bind (fun r2 => (f_X11_bits r2 u).bind (fun r3 => if (2 : Int32) ≤ r3 then (some false) else (some true)))))) else none := rfl
set_option maxRecDepth 100000 in
set_option maxHeartbeats 4000000 in
theorem c_X11_hasRoom (l : Launch) (D : zD) (A : Nat → Prop) (b : Nat) (a1 : Int32) (u : zU) {v : Bool} (h : f_X11_hasRoom a1 u = some v) : z_M l D A b gM yX11_hasRoom cX11_hasRoom 2 (some .boolean) 2 45 [.ref (b + 0), .int a1] u (some (.int (bI v))) u := by
  refine z_enter (by decide) (Nat.le_of_ble_eq_true rfl) ?_
  intro p e s m below meth c ls C0 hr hml hlk hW hS hl
  have hl : lv_has ls 2 [(0, .ref (b + 0)), (1, .int a1)] := hl
  have hx := C0.1
  have hb := C0.2.1
  rw [f_X11_hasRoom_e] at h
  refine lv_aload_n hx hb dX11_hasRoom_0 rfl (lv_at hl 0 rfl) ?_
  refine z_getr (o := 1) C0 hW fl_X11_7 rfl rfl rfl dX11_hasRoom_1 ?_
  refine lv_bipush (v := (17 : Int32)) hx hb dX11_hasRoom_4 (by decide) ?_
  refine lv_iload_n hx hb dX11_hasRoom_6 rfl (lv_at hl 1 rfl) ?_
  refine lv_iadd hx hb dX11_hasRoom_7 ?_
  replace h := z_if h
  obtain ⟨hin, h⟩ := h
  refine z_iald (n := 705) C0 hW rfl rfl hin rfl dX11_hasRoom_8 ?_
  clear hin
  refine lv_topi (fun z1 e1 => ?_)
  replace h := z_ly h e1
  clear e1
  refine lv_if_le (tgt := 28) hx hb dX11_hasRoom_9 (by decide) (fun hc => ?_) (fun hc => ?_)
  · replace h := z_t h hc
    clear hc
    refine lv_iconst (v := (0 : Int32)) hx hb dX11_hasRoom_28 (by decide) ?_
    cases h
    exact z_zret (x := false) C0 hr hlk hW hS dX11_hasRoom_29
  · replace h := z_f h hc
    clear hc
    refine lv_aload_n hx hb dX11_hasRoom_12 rfl (lv_at hl 0 rfl) ?_
    refine lv_iload_n hx hb dX11_hasRoom_13 rfl (lv_at hl 1 rfl) ?_
    replace h := z_bd h
    obtain ⟨r2, hq, h⟩ := h
    refine z_cvi (As := [.int a1]) C0 hml hl.1 hW hS (c_X11_those l D A b a1 u hq) mv_X11_53 rfl ⟨Nat.le_of_ble_eq_true rfl, Nat.le_of_ble_eq_true rfl⟩ rfl rfl (Nat.le_of_ble_eq_true rfl) dX11_hasRoom_14 (fun H locs hW hS => ?_)
    clear hq
    replace h := z_bd h
    obtain ⟨r3, hq, h⟩ := h
    refine z_csi (As := [.int r2]) C0 hml hl.1 hW hS (c_X11_bits l D A b r2 u hq) ms_X11_57 ⟨Nat.le_of_ble_eq_true rfl, Nat.le_of_ble_eq_true rfl⟩ rfl rfl (Nat.le_of_ble_eq_true rfl) dX11_hasRoom_17 (fun H locs hW hS => ?_)
    clear hq
    refine lv_iconst (v := (2 : Int32)) hx hb dX11_hasRoom_20 (by decide) ?_
    refine lv_icmp_ge (tgt := 28) hx hb dX11_hasRoom_21 (by decide) (fun hc => ?_) (fun hc => ?_)
    · replace h := z_t h hc
      clear hc
      refine lv_iconst (v := (0 : Int32)) hx hb dX11_hasRoom_28 (by decide) ?_
      cases h
      exact z_zret (x := false) C0 hr hlk hW hS dX11_hasRoom_29
    · replace h := z_f h hc
      clear hc
      refine lv_iconst (v := (1 : Int32)) hx hb dX11_hasRoom_24 (by decide) ?_
      refine lv_goto (tgt := 29) hx hb dX11_hasRoom_25 (by decide) ?_
      cases h
      exact z_zret (x := true) C0 hr hlk hW hS dX11_hasRoom_29
def f_X11_placesOf (a1 : Int32) (u : zU) : Int32 :=
  z_rem ((a1 - (u 1 4)) + (8 : Int32)) (8 : Int32)
theorem f_X11_placesOf_e (a1 : Int32) (u : zU) : f_X11_placesOf a1 u = z_rem ((a1 - (u 1 4)) + (8 : Int32)) (8 : Int32) := rfl
set_option maxRecDepth 100000 in
set_option maxHeartbeats 4000000 in
theorem c_X11_placesOf (l : Launch) (D : zD) (A : Nat → Prop) (b : Nat) (a1 : Int32) (u : zU) {v : Int32} (h : f_X11_placesOf a1 u = v) : z_M l D A b gM yX11_placesOf cX11_placesOf 2 (some .int) 0 0 [.ref (b + 0), .int a1] u (some (.int v)) u := by
  refine z_enter (by decide) (Nat.le_of_ble_eq_true rfl) ?_
  intro p e s m below meth c ls C0 hr hml hlk hW hS hl
  have hl : lv_has ls 2 [(0, .ref (b + 0)), (1, .int a1)] := hl
  have hx := C0.1
  have hb := C0.2.1
  rw [f_X11_placesOf_e] at h
  refine lv_iload_n hx hb dX11_placesOf_0 rfl (lv_at hl 1 rfl) ?_
  refine lv_aload_n hx hb dX11_placesOf_1 rfl (lv_at hl 0 rfl) ?_
  refine z_getr (o := 1) C0 hW fl_X11_7 rfl rfl rfl dX11_placesOf_2 ?_
  refine lv_iconst (v := (4 : Int32)) hx hb dX11_placesOf_5 (by decide) ?_
  refine z_iald (k := 4) (n := 705) C0 hW rfl rfl (by decide) (by decide) dX11_placesOf_6 ?_
  refine lv_isub hx hb dX11_placesOf_7 ?_
  refine lv_bipush (v := (8 : Int32)) hx hb dX11_placesOf_8 (by decide) ?_
  refine lv_iadd hx hb dX11_placesOf_10 ?_
  refine lv_bipush (v := (8 : Int32)) hx hb dX11_placesOf_11 (by decide) ?_
  refine lv_irem hx hb dX11_placesOf_13 (by decide) ?_
  cases h
  exact z_iret C0 hr hlk hW hS dX11_placesOf_14
def f_X11_heightOf (a1 : Int32) (u : zU) : Int32 :=
  z_let (f_X11_placesOf a1 u) (fun r1 => z_let (f_X11_lesser r1 ((8 : Int32) - r1) u) (fun r2 => (4 : Int32) - r2))
theorem f_X11_heightOf_e (a1 : Int32) (u : zU) : f_X11_heightOf a1 u = z_let (f_X11_placesOf a1 u) (fun r1 => z_let (f_X11_lesser r1 ((8 : Int32) - r1) u) (fun r2 => (4 : Int32) - r2)) := rfl
set_option maxRecDepth 100000 in
set_option maxHeartbeats 4000000 in
theorem c_X11_heightOf (l : Launch) (D : zD) (A : Nat → Prop) (b : Nat) (a1 : Int32) (u : zU) {v : Int32} (h : f_X11_heightOf a1 u = v) : z_M l D A b gM yX11_heightOf cX11_heightOf 3 (some .int) 1 21 [.ref (b + 0), .int a1] u (some (.int v)) u := by
  refine z_enter (by decide) (Nat.le_of_ble_eq_true rfl) ?_
  intro p e s m below meth c ls C0 hr hml hlk hW hS hl
  have hl : lv_has ls 3 [(0, .ref (b + 0)), (1, .int a1)] := hl
  have hx := C0.1
  have hb := C0.2.1
  rw [f_X11_heightOf_e] at h
  refine lv_aload_n hx hb dX11_heightOf_0 rfl (lv_at hl 0 rfl) ?_
  refine lv_iload_n hx hb dX11_heightOf_1 rfl (lv_at hl 1 rfl) ?_
  obtain ⟨r1, hq⟩ : ∃ y, f_X11_placesOf a1 u = y := ⟨_, rfl⟩
  replace h := z_lz h hq
  refine z_cvi (As := [.int a1]) C0 hml hl.1 hW hS (c_X11_placesOf l D A b a1 u hq) mv_X11_60 rfl ⟨Nat.le_of_ble_eq_true rfl, Nat.le_of_ble_eq_true rfl⟩ rfl rfl (Nat.le_of_ble_eq_true rfl) dX11_heightOf_2 (fun H locs hW hS => ?_)
  clear hq
  refine lv_istore_n (lv' := [(2, .int r1), (0, .ref (b + 0)), (1, .int a1)]) hx hb dX11_heightOf_5 rfl hl (by decide) rfl (fun ls hl => ?_)
  refine lv_iconst (v := (4 : Int32)) hx hb dX11_heightOf_6 (by decide) ?_
  refine lv_iload_n hx hb dX11_heightOf_7 rfl (lv_at hl 0 rfl) ?_
  refine lv_bipush (v := (8 : Int32)) hx hb dX11_heightOf_8 (by decide) ?_
  refine lv_iload_n hx hb dX11_heightOf_10 rfl (lv_at hl 0 rfl) ?_
  refine lv_isub hx hb dX11_heightOf_11 ?_
  obtain ⟨r2, hq⟩ : ∃ y, f_X11_lesser r1 ((8 : Int32) - r1) u = y := ⟨_, rfl⟩
  replace h := z_lz h hq
  refine z_csi (As := [.int r1, .int ((8 : Int32) - r1)]) C0 hml hl.1 hW hS (c_X11_lesser l D A b r1 ((8 : Int32) - r1) u hq) ms_X11_63 ⟨Nat.le_of_ble_eq_true rfl, Nat.le_of_ble_eq_true rfl⟩ rfl rfl (Nat.le_of_ble_eq_true rfl) dX11_heightOf_12 (fun H locs hW hS => ?_)
  clear hq
  refine lv_isub hx hb dX11_heightOf_15 ?_
  cases h
  exact z_iret C0 hr hlk hW hS dX11_heightOf_16
def f_X11_firstIn_2 : Nat → Int32 → Int32 → zU → Option (Int32)
  | 0, _, _, _ => none
  | n + 1, x1, x2, u =>
    if (u 1 3) ≤ x2 then (some (-1 : Int32)) else ((f_X11_of x2 (0 : Int32) u).bind (fun r1 => if r1 = x1 then (some x2) else (f_X11_firstIn_2 n x1 (x2 + (1 : Int32)) u)))
theorem f_X11_firstIn_2_s (n : Nat) (x1 : Int32) (x2 : Int32) (u : zU) : f_X11_firstIn_2 (n + 1) x1 x2 u = if (u 1 3) ≤ x2 then (some (-1 : Int32)) else ((f_X11_of x2 (0 : Int32) u).bind (fun r1 => if r1 = x1 then (some x2) else (f_X11_firstIn_2 n x1 (x2 + (1 : Int32)) u))) := rfl
def f_X11_firstIn (a1 : Int32) (u : zU) : Option (Int32) :=
  f_X11_firstIn_2 5000 a1 (0 : Int32) u
set_option maxRecDepth 100000 in
set_option maxHeartbeats 4000000 in
theorem l_X11_firstIn_2 {l : Launch} {D : zD} {A : Nat → Prop} {b : Nat} {p : Program} {e : Env} {s : State} {m : MethodId} {args : Array Value} {below : List Frame} {meth : Method} {c : Code} {v : Int32} {u : zU} (C0 : z_C p c cX11_firstIn s m args yX11_firstIn.cls D A) (hr : meth.sig.returnType = (some .int)) (hml : c.maxLocals = 3) (hlk : meth.locks = false) : ∀ (n : Nat) (x1 : Int32) (x2 : Int32) (H : Heap) (locs : List Loc) (ls : Array Slot), f_X11_firstIn_2 n x1 x2 u = some v → z_W D A b gM u H → va_S A s.heap H locs → lv_has ls 3 [(0, .ref (b + 0)), (1, .int x1), (2, .int x2)] → W p l e { frames := 1, cells := 0, slots := 0, locals := 22 } s m args below meth c H locs 0 0 (z_End D A b gM below args s (some (.int v)) u) (F0 m 2 ls []) := by
  have hx := C0.1
  have hb := C0.2.1
  intro n
  induction n with
  | zero => intro x1 x2 H locs ls h hW hS hl; cases h
  | succ n ih =>
    intro x1 x2 H locs ls h hW hS hl
    rw [f_X11_firstIn_2_s] at h
    refine lv_iload_n hx hb dX11_firstIn_2 rfl (lv_at hl 2 rfl) ?_
    refine lv_aload_n hx hb dX11_firstIn_3 rfl (lv_at hl 0 rfl) ?_
    refine z_getr (o := 1) C0 hW fl_X11_7 rfl rfl rfl dX11_firstIn_4 ?_
    refine lv_iconst (v := (3 : Int32)) hx hb dX11_firstIn_7 (by decide) ?_
    refine z_iald (k := 3) (n := 705) C0 hW rfl rfl (by decide) (by decide) dX11_firstIn_8 ?_
    refine lv_icmp_ge (tgt := 30) hx hb dX11_firstIn_9 (by decide) (fun hc => ?_) (fun hc => ?_)
    · replace h := z_t h hc
      clear hc
      refine lv_iconst (v := (-1 : Int32)) hx hb dX11_firstIn_30 (by decide) ?_
      cases h
      exact z_iret C0 hr hlk hW hS dX11_firstIn_31
    · replace h := z_f h hc
      clear hc
      refine lv_aload_n hx hb dX11_firstIn_12 rfl (lv_at hl 0 rfl) ?_
      refine lv_iload_n hx hb dX11_firstIn_13 rfl (lv_at hl 2 rfl) ?_
      refine lv_iconst (v := (0 : Int32)) hx hb dX11_firstIn_14 (by decide) ?_
      replace h := z_bd h
      obtain ⟨r1, hq, h⟩ := h
      refine z_cvi (As := [.int x2, .int (0 : Int32)]) C0 hml hl.1 hW hS (c_X11_of l D A b x2 (0 : Int32) u hq) mv_X11_49 rfl ⟨Nat.le_of_ble_eq_true rfl, Nat.le_of_ble_eq_true rfl⟩ rfl rfl (Nat.le_of_ble_eq_true rfl) dX11_firstIn_15 (fun H locs hW hS => ?_)
      clear hq
      refine lv_iload_n hx hb dX11_firstIn_18 rfl (lv_at hl 1 rfl) ?_
      refine lv_icmp_ne (tgt := 24) hx hb dX11_firstIn_19 (by decide) (fun hc => ?_) (fun hc => ?_)
      · replace h := z_f h hc
        clear hc
        refine lv_iinc (v := x2 + (1 : Int32)) (lv' := [(2, .int (x2 + (1 : Int32))), (0, .ref (b + 0)), (1, .int x1)]) hx hb dX11_firstIn_24 hl (k := 2) rfl rfl (by decide) rfl (fun ls hl => ?_)
        refine lv_goto (tgt := 2) hx hb dX11_firstIn_27 (by decide) ?_
        exact ih _ _ _ _ _ h hW hS (lv_sub hl [1, 2, 0] rfl)
      · replace h := z_t h hc
        clear hc
        refine lv_iload_n hx hb dX11_firstIn_22 rfl (lv_at hl 2 rfl) ?_
        cases h
        exact z_iret C0 hr hlk hW hS dX11_firstIn_23
theorem f_X11_firstIn_e (a1 : Int32) (u : zU) : f_X11_firstIn a1 u = f_X11_firstIn_2 5000 a1 (0 : Int32) u := rfl
set_option maxRecDepth 100000 in
set_option maxHeartbeats 4000000 in
theorem c_X11_firstIn (l : Launch) (D : zD) (A : Nat → Prop) (b : Nat) (a1 : Int32) (u : zU) {v : Int32} (h : f_X11_firstIn a1 u = some v) : z_M l D A b gM yX11_firstIn cX11_firstIn 3 (some .int) 1 22 [.ref (b + 0), .int a1] u (some (.int v)) u := by
  refine z_enter (by decide) (Nat.le_of_ble_eq_true rfl) ?_
  intro p e s m below meth c ls C0 hr hml hlk hW hS hl
  have hl : lv_has ls 3 [(0, .ref (b + 0)), (1, .int a1)] := hl
  have hx := C0.1
  have hb := C0.2.1
  rw [f_X11_firstIn_e] at h
  refine lv_iconst (v := (0 : Int32)) hx hb dX11_firstIn_0 (by decide) ?_
  refine lv_istore_n (lv' := [(2, .int (0 : Int32)), (0, .ref (b + 0)), (1, .int a1)]) hx hb dX11_firstIn_1 rfl hl (by decide) rfl (fun ls hl => ?_)
  exact l_X11_firstIn_2 C0 hr hml hlk 5000 _ _ _ _ _ h hW hS (lv_sub hl [1, 2, 0] rfl)
def f_X11_queues (a1 : Int32) (u : zU) : Option (zU) :=
  (f_X11_put a1 (0 : Int32) (-1 : Int32) u).bind (fun u1 => if z_in ((57 : Int32) + (u1 1 10)) 705 = true then (z_let (z_up u1 1 ((57 : Int32) + (u1 1 10)).toNatClampNeg a1) (fun u2 => z_let (z_up u2 1 10 ((u2 1 10) + (1 : Int32))) (fun u3 => some u3))) else none)
theorem f_X11_queues_e (a1 : Int32) (u : zU) : f_X11_queues a1 u = (f_X11_put a1 (0 : Int32) (-1 : Int32) u).bind (fun u1 => if z_in ((57 : Int32) + (u1 1 10)) 705 = true then (z_let (z_up u1 1 ((57 : Int32) + (u1 1 10)).toNatClampNeg a1) (fun u2 => z_let (z_up u2 1 10 ((u2 1 10) + (1 : Int32))) (fun u3 => some u3))) else none) := rfl
set_option maxRecDepth 100000 in
set_option maxHeartbeats 4000000 in
theorem c_X11_queues (l : Launch) (D : zD) (A : Nat → Prop) (b : Nat) (a1 : Int32) (u : zU) {u' : zU} (h : f_X11_queues a1 u = some u') : z_M l D A b gM yX11_queues cX11_queues 2 none 1 23 [.ref (b + 0), .int a1] u none u' := by
  refine z_enter (by decide) (Nat.le_of_ble_eq_true rfl) ?_
  intro p e s m below meth c ls C0 hr hml hlk hW hS hl
  have hl : lv_has ls 2 [(0, .ref (b + 0)), (1, .int a1)] := hl
  have hx := C0.1
  have hb := C0.2.1
  rw [f_X11_queues_e] at h
  refine lv_aload_n hx hb dX11_queues_0 rfl (lv_at hl 0 rfl) ?_
  refine lv_iload_n hx hb dX11_queues_1 rfl (lv_at hl 1 rfl) ?_
  refine lv_iconst (v := (0 : Int32)) hx hb dX11_queues_2 (by decide) ?_
  refine lv_iconst (v := (-1 : Int32)) hx hb dX11_queues_3 (by decide) ?_
  replace h := z_bd h
  obtain ⟨u1, hq, h⟩ := h
  refine z_cvv (As := [.int a1, .int (0 : Int32), .int (-1 : Int32)]) C0 hml hl.1 hW hS (c_X11_put l D A b a1 (0 : Int32) (-1 : Int32) u hq) mv_X11_66 rfl ⟨Nat.le_of_ble_eq_true rfl, Nat.le_of_ble_eq_true rfl⟩ rfl rfl (Nat.le_of_ble_eq_true rfl) dX11_queues_4 (fun H locs hW hS => ?_)
  clear hq
  refine lv_aload_n hx hb dX11_queues_7 rfl (lv_at hl 0 rfl) ?_
  refine z_getr (o := 1) C0 hW fl_X11_7 rfl rfl rfl dX11_queues_8 ?_
  refine lv_bipush (v := (57 : Int32)) hx hb dX11_queues_11 (by decide) ?_
  refine lv_aload_n hx hb dX11_queues_13 rfl (lv_at hl 0 rfl) ?_
  refine z_getr (o := 1) C0 hW fl_X11_7 rfl rfl rfl dX11_queues_14 ?_
  refine lv_bipush (v := (10 : Int32)) hx hb dX11_queues_17 (by decide) ?_
  refine z_iald (k := 10) (n := 705) C0 hW rfl rfl (by decide) (by decide) dX11_queues_19 ?_
  refine lv_iadd hx hb dX11_queues_20 ?_
  refine lv_iload_n hx hb dX11_queues_21 rfl (lv_at hl 1 rfl) ?_
  replace h := z_if h
  obtain ⟨hin, h⟩ := h
  refine z_iast (n := 705) C0 hW hS rfl rfl hin rfl dX11_queues_22 (fun H locs u2 e1 hW hS => ?_)
  replace h := z_ly h e1
  clear e1
  refine lv_aload_n hx hb dX11_queues_23 rfl (lv_at hl 0 rfl) ?_
  refine z_getr (o := 1) C0 hW fl_X11_7 rfl rfl rfl dX11_queues_24 ?_
  refine lv_bipush (v := (10 : Int32)) hx hb dX11_queues_27 (by decide) ?_
  refine lv_dup2_11 hx hb dX11_queues_29 rfl rfl ?_
  refine z_iald (k := 10) (n := 705) C0 hW rfl rfl (by decide) (by decide) dX11_queues_30 ?_
  refine lv_iconst (v := (1 : Int32)) hx hb dX11_queues_31 (by decide) ?_
  refine lv_iadd hx hb dX11_queues_32 ?_
  refine z_iast (k := 10) (n := 705) C0 hW hS rfl rfl (by decide) (by decide) dX11_queues_33 (fun H locs u3 e1 hW hS => ?_)
  replace h := z_ly h e1
  clear e1
  cases h
  exact z_vret C0 hr hlk hW hS dX11_queues_34
def f_X11_aheadOf_2 : Nat → Int32 → Int32 → zU → Option (Int32)
  | 0, _, _, _ => none
  | n + 1, x1, x2, u =>
    if z_in ((57 : Int32) + x2) 705 = true then (z_let (u 1 ((57 : Int32) + x2).toNatClampNeg) (fun z1 => if z1 = x1 then (some x2) else (f_X11_aheadOf_2 n x1 (x2 + (1 : Int32)) u))) else none
theorem f_X11_aheadOf_2_s (n : Nat) (x1 : Int32) (x2 : Int32) (u : zU) : f_X11_aheadOf_2 (n + 1) x1 x2 u = if z_in ((57 : Int32) + x2) 705 = true then (z_let (u 1 ((57 : Int32) + x2).toNatClampNeg) (fun z1 => if z1 = x1 then (some x2) else (f_X11_aheadOf_2 n x1 (x2 + (1 : Int32)) u))) else none := rfl
def f_X11_aheadOf (a1 : Int32) (u : zU) : Option (Int32) :=
  f_X11_aheadOf_2 5000 a1 (0 : Int32) u
set_option maxRecDepth 100000 in
set_option maxHeartbeats 4000000 in
theorem l_X11_aheadOf_2 {l : Launch} {D : zD} {A : Nat → Prop} {b : Nat} {p : Program} {e : Env} {s : State} {m : MethodId} {args : Array Value} {below : List Frame} {meth : Method} {c : Code} {v : Int32} {u : zU} (C0 : z_C p c cX11_aheadOf s m args yX11_aheadOf.cls D A) (hr : meth.sig.returnType = (some .int)) (hml : c.maxLocals = 3) (hlk : meth.locks = false) : ∀ (n : Nat) (x1 : Int32) (x2 : Int32) (H : Heap) (locs : List Loc) (ls : Array Slot), f_X11_aheadOf_2 n x1 x2 u = some v → z_W D A b gM u H → va_S A s.heap H locs → lv_has ls 3 [(0, .ref (b + 0)), (1, .int x1), (2, .int x2)] → W p l e { frames := 0, cells := 0, slots := 0, locals := 0 } s m args below meth c H locs 0 0 (z_End D A b gM below args s (some (.int v)) u) (F0 m 2 ls []) := by
  have hx := C0.1
  have hb := C0.2.1
  intro n
  induction n with
  | zero => intro x1 x2 H locs ls h hW hS hl; cases h
  | succ n ih =>
    intro x1 x2 H locs ls h hW hS hl
    rw [f_X11_aheadOf_2_s] at h
    refine lv_aload_n hx hb dX11_aheadOf_2 rfl (lv_at hl 0 rfl) ?_
    refine z_getr (o := 1) C0 hW fl_X11_7 rfl rfl rfl dX11_aheadOf_3 ?_
    refine lv_bipush (v := (57 : Int32)) hx hb dX11_aheadOf_6 (by decide) ?_
    refine lv_iload_n hx hb dX11_aheadOf_8 rfl (lv_at hl 2 rfl) ?_
    refine lv_iadd hx hb dX11_aheadOf_9 ?_
    replace h := z_if h
    obtain ⟨hin, h⟩ := h
    refine z_iald (n := 705) C0 hW rfl rfl hin rfl dX11_aheadOf_10 ?_
    clear hin
    refine lv_topi (fun z1 e1 => ?_)
    replace h := z_ly h e1
    clear e1
    refine lv_iload_n hx hb dX11_aheadOf_11 rfl (lv_at hl 1 rfl) ?_
    refine lv_icmp_eq (tgt := 21) hx hb dX11_aheadOf_12 (by decide) (fun hc => ?_) (fun hc => ?_)
    · replace h := z_t h hc
      clear hc
      refine lv_iload_n hx hb dX11_aheadOf_21 rfl (lv_at hl 2 rfl) ?_
      cases h
      exact z_iret C0 hr hlk hW hS dX11_aheadOf_22
    · replace h := z_f h hc
      clear hc
      refine lv_iinc (v := x2 + (1 : Int32)) (lv' := [(2, .int (x2 + (1 : Int32))), (0, .ref (b + 0)), (1, .int x1)]) hx hb dX11_aheadOf_15 hl (k := 2) rfl rfl (by decide) rfl (fun ls hl => ?_)
      refine lv_goto (tgt := 2) hx hb dX11_aheadOf_18 (by decide) ?_
      exact ih _ _ _ _ _ h hW hS (lv_sub hl [1, 2, 0] rfl)
theorem f_X11_aheadOf_e (a1 : Int32) (u : zU) : f_X11_aheadOf a1 u = f_X11_aheadOf_2 5000 a1 (0 : Int32) u := rfl
set_option maxRecDepth 100000 in
set_option maxHeartbeats 4000000 in
theorem c_X11_aheadOf (l : Launch) (D : zD) (A : Nat → Prop) (b : Nat) (a1 : Int32) (u : zU) {v : Int32} (h : f_X11_aheadOf a1 u = some v) : z_M l D A b gM yX11_aheadOf cX11_aheadOf 3 (some .int) 0 0 [.ref (b + 0), .int a1] u (some (.int v)) u := by
  refine z_enter (by decide) (Nat.le_of_ble_eq_true rfl) ?_
  intro p e s m below meth c ls C0 hr hml hlk hW hS hl
  have hl : lv_has ls 3 [(0, .ref (b + 0)), (1, .int a1)] := hl
  have hx := C0.1
  have hb := C0.2.1
  rw [f_X11_aheadOf_e] at h
  refine lv_iconst (v := (0 : Int32)) hx hb dX11_aheadOf_0 (by decide) ?_
  refine lv_istore_n (lv' := [(2, .int (0 : Int32)), (0, .ref (b + 0)), (1, .int a1)]) hx hb dX11_aheadOf_1 rfl hl (by decide) rfl (fun ls hl => ?_)
  exact l_X11_aheadOf_2 C0 hr hml hlk 5000 _ _ _ _ _ h hW hS (lv_sub hl [1, 2, 0] rfl)
def f_X11_gets_6 : Nat → Int32 → Int32 → Int32 → zU → Option (zU)
  | 0, _, _, _, _ => none
  | n + 1, x1, x2, x3, u =>
    if (u 1 10) ≤ (x3 + (1 : Int32)) then (z_let (z_up u 1 10 ((u 1 10) - (1 : Int32))) (fun u2 => (f_X11_put x1 (0 : Int32) x2 u2).bind (fun u3 => some u3))) else (if z_in (((57 : Int32) + x3) + (1 : Int32)) 705 = true then (z_let (u 1 (((57 : Int32) + x3) + (1 : Int32)).toNatClampNeg) (fun z4 => if z_in ((57 : Int32) + x3) 705 = true then (z_let (z_up u 1 ((57 : Int32) + x3).toNatClampNeg z4) (fun u5 => f_X11_gets_6 n x1 x2 (x3 + (1 : Int32)) u5)) else none)) else none)
theorem f_X11_gets_6_s (n : Nat) (x1 : Int32) (x2 : Int32) (x3 : Int32) (u : zU) : f_X11_gets_6 (n + 1) x1 x2 x3 u = if (u 1 10) ≤ (x3 + (1 : Int32)) then (z_let (z_up u 1 10 ((u 1 10) - (1 : Int32))) (fun u2 => (f_X11_put x1 (0 : Int32) x2 u2).bind (fun u3 => some u3))) else (if z_in (((57 : Int32) + x3) + (1 : Int32)) 705 = true then (z_let (u 1 (((57 : Int32) + x3) + (1 : Int32)).toNatClampNeg) (fun z4 => if z_in ((57 : Int32) + x3) 705 = true then (z_let (z_up u 1 ((57 : Int32) + x3).toNatClampNeg z4) (fun u5 => f_X11_gets_6 n x1 x2 (x3 + (1 : Int32)) u5)) else none)) else none) := rfl
def f_X11_gets (a1 : Int32) (a2 : Int32) (u : zU) : Option (zU) :=
  (f_X11_aheadOf a1 u).bind (fun r1 => f_X11_gets_6 5000 a1 a2 r1 u)
set_option maxRecDepth 100000 in
set_option maxHeartbeats 4000000 in
theorem l_X11_gets_6 {l : Launch} {D : zD} {A : Nat → Prop} {b : Nat} {p : Program} {e : Env} {s : State} {m : MethodId} {args : Array Value} {below : List Frame} {meth : Method} {c : Code} {u' : zU} (C0 : z_C p c cX11_gets s m args yX11_gets.cls D A) (hr : meth.sig.returnType = none) (hml : c.maxLocals = 4) (hlk : meth.locks = false) : ∀ (n : Nat) (x1 : Int32) (x2 : Int32) (x3 : Int32) (u : zU) (H : Heap) (locs : List Loc) (ls : Array Slot), f_X11_gets_6 n x1 x2 x3 u = some u' → z_W D A b gM u H → va_S A s.heap H locs → lv_has ls 4 [(0, .ref (b + 0)), (1, .int x1), (2, .int x2), (3, .int x3)] → W p l e { frames := 1, cells := 0, slots := 0, locals := 23 } s m args below meth c H locs 0 0 (z_End D A b gM below args s none u') (F0 m 6 ls []) := by
  have hx := C0.1
  have hb := C0.2.1
  intro n
  induction n with
  | zero => intro x1 x2 x3 u H locs ls h hW hS hl; cases h
  | succ n ih =>
    intro x1 x2 x3 u H locs ls h hW hS hl
    rw [f_X11_gets_6_s] at h
    refine lv_iload_n hx hb dX11_gets_6 rfl (lv_at hl 3 rfl) ?_
    refine lv_iconst (v := (1 : Int32)) hx hb dX11_gets_7 (by decide) ?_
    refine lv_iadd hx hb dX11_gets_8 ?_
    refine lv_aload_n hx hb dX11_gets_9 rfl (lv_at hl 0 rfl) ?_
    refine z_getr (o := 1) C0 hW fl_X11_7 rfl rfl rfl dX11_gets_10 ?_
    refine lv_bipush (v := (10 : Int32)) hx hb dX11_gets_13 (by decide) ?_
    refine z_iald (k := 10) (n := 705) C0 hW rfl rfl (by decide) (by decide) dX11_gets_15 ?_
    refine lv_icmp_ge (tgt := 45) hx hb dX11_gets_16 (by decide) (fun hc => ?_) (fun hc => ?_)
    · replace h := z_t h hc
      clear hc
      refine lv_aload_n hx hb dX11_gets_45 rfl (lv_at hl 0 rfl) ?_
      refine z_getr (o := 1) C0 hW fl_X11_7 rfl rfl rfl dX11_gets_46 ?_
      refine lv_bipush (v := (10 : Int32)) hx hb dX11_gets_49 (by decide) ?_
      refine lv_dup2_11 hx hb dX11_gets_51 rfl rfl ?_
      refine z_iald (k := 10) (n := 705) C0 hW rfl rfl (by decide) (by decide) dX11_gets_52 ?_
      refine lv_iconst (v := (1 : Int32)) hx hb dX11_gets_53 (by decide) ?_
      refine lv_isub hx hb dX11_gets_54 ?_
      refine z_iast (k := 10) (n := 705) C0 hW hS rfl rfl (by decide) (by decide) dX11_gets_55 (fun H locs u2 e1 hW hS => ?_)
      replace h := z_ly h e1
      clear e1
      refine lv_aload_n hx hb dX11_gets_56 rfl (lv_at hl 0 rfl) ?_
      refine lv_iload_n hx hb dX11_gets_57 rfl (lv_at hl 1 rfl) ?_
      refine lv_iconst (v := (0 : Int32)) hx hb dX11_gets_58 (by decide) ?_
      refine lv_iload_n hx hb dX11_gets_59 rfl (lv_at hl 2 rfl) ?_
      replace h := z_bd h
      obtain ⟨u3, hq, h⟩ := h
      refine z_cvv (As := [.int x1, .int (0 : Int32), .int x2]) C0 hml hl.1 hW hS (c_X11_put l D A b x1 (0 : Int32) x2 u2 hq) mv_X11_66 rfl ⟨Nat.le_of_ble_eq_true rfl, Nat.le_of_ble_eq_true rfl⟩ rfl rfl (Nat.le_of_ble_eq_true rfl) dX11_gets_60 (fun H locs hW hS => ?_)
      clear hq
      cases h
      exact z_vret C0 hr hlk hW hS dX11_gets_63
    · replace h := z_f h hc
      clear hc
      refine lv_aload_n hx hb dX11_gets_19 rfl (lv_at hl 0 rfl) ?_
      refine z_getr (o := 1) C0 hW fl_X11_7 rfl rfl rfl dX11_gets_20 ?_
      refine lv_bipush (v := (57 : Int32)) hx hb dX11_gets_23 (by decide) ?_
      refine lv_iload_n hx hb dX11_gets_25 rfl (lv_at hl 3 rfl) ?_
      refine lv_iadd hx hb dX11_gets_26 ?_
      refine lv_aload_n hx hb dX11_gets_27 rfl (lv_at hl 0 rfl) ?_
      refine z_getr (o := 1) C0 hW fl_X11_7 rfl rfl rfl dX11_gets_28 ?_
      refine lv_bipush (v := (57 : Int32)) hx hb dX11_gets_31 (by decide) ?_
      refine lv_iload_n hx hb dX11_gets_33 rfl (lv_at hl 3 rfl) ?_
      refine lv_iadd hx hb dX11_gets_34 ?_
      refine lv_iconst (v := (1 : Int32)) hx hb dX11_gets_35 (by decide) ?_
      refine lv_iadd hx hb dX11_gets_36 ?_
      replace h := z_if h
      obtain ⟨hin, h⟩ := h
      refine z_iald (n := 705) C0 hW rfl rfl hin rfl dX11_gets_37 ?_
      clear hin
      refine lv_topi (fun z4 e1 => ?_)
      replace h := z_ly h e1
      clear e1
      replace h := z_if h
      obtain ⟨hin, h⟩ := h
      refine z_iast (n := 705) C0 hW hS rfl rfl hin rfl dX11_gets_38 (fun H locs u5 e1 hW hS => ?_)
      replace h := z_ly h e1
      clear e1
      refine lv_iinc (v := x3 + (1 : Int32)) (lv' := [(3, .int (x3 + (1 : Int32))), (0, .ref (b + 0)), (1, .int x1), (2, .int x2)]) hx hb dX11_gets_39 hl (k := 3) rfl rfl (by decide) rfl (fun ls hl => ?_)
      refine lv_goto (tgt := 6) hx hb dX11_gets_42 (by decide) ?_
      exact ih _ _ _ _ _ _ _ h hW hS (lv_sub hl [1, 2, 3, 0] rfl)
theorem f_X11_gets_e (a1 : Int32) (a2 : Int32) (u : zU) : f_X11_gets a1 a2 u = (f_X11_aheadOf a1 u).bind (fun r1 => f_X11_gets_6 5000 a1 a2 r1 u) := rfl
set_option maxRecDepth 100000 in
set_option maxHeartbeats 4000000 in
theorem c_X11_gets (l : Launch) (D : zD) (A : Nat → Prop) (b : Nat) (a1 : Int32) (a2 : Int32) (u : zU) {u' : zU} (h : f_X11_gets a1 a2 u = some u') : z_M l D A b gM yX11_gets cX11_gets 4 none 1 23 [.ref (b + 0), .int a1, .int a2] u none u' := by
  refine z_enter (by decide) (Nat.le_of_ble_eq_true rfl) ?_
  intro p e s m below meth c ls C0 hr hml hlk hW hS hl
  have hl : lv_has ls 4 [(0, .ref (b + 0)), (1, .int a1), (2, .int a2)] := hl
  have hx := C0.1
  have hb := C0.2.1
  rw [f_X11_gets_e] at h
  refine lv_aload_n hx hb dX11_gets_0 rfl (lv_at hl 0 rfl) ?_
  refine lv_iload_n hx hb dX11_gets_1 rfl (lv_at hl 1 rfl) ?_
  replace h := z_bd h
  obtain ⟨r1, hq, h⟩ := h
  refine z_cvi (As := [.int a1]) C0 hml hl.1 hW hS (c_X11_aheadOf l D A b a1 u hq) mv_X11_70 rfl ⟨Nat.le_of_ble_eq_true rfl, Nat.le_of_ble_eq_true rfl⟩ rfl rfl (Nat.le_of_ble_eq_true rfl) dX11_gets_2 (fun H locs hW hS => ?_)
  clear hq
  refine lv_istore_n (lv' := [(3, .int r1), (0, .ref (b + 0)), (1, .int a1), (2, .int a2)]) hx hb dX11_gets_5 rfl hl (by decide) rfl (fun ls hl => ?_)
  exact l_X11_gets_6 C0 hr hml hlk 5000 _ _ _ _ _ _ _ h hW hS (lv_sub hl [1, 2, 3, 0] rfl)
def f_X11_feed_23 : Nat → Int32 → Int32 → Int32 → Int32 → Int32 → Int32 → zU → Option (Int32 × zU)
  | 0, _, _, _, _, _, _, _ => none
  | n + 1, x1, x2, x3, x4, x5, x6, u =>
    if (20 : Int32) ≤ x6 then (some (u 0 8, u)) else (if (4 : Int32) ≤ x6 then (if (8 : Int32) ≤ x6 then (if (12 : Int32) ≤ x6 then (if (16 : Int32) ≤ x6 then (if z_in (u 0 8) 400 = true then (z_let (z_up u 5 (u 0 8).toNatClampNeg ((z_ushr x5 ((24 : Int32) - ((8 : Int32) * (z_rem x6 (4 : Int32))))) &&& (255 : Int32))) (fun u2 => z_let (z_up u2 0 8 ((u2 0 8) + (1 : Int32))) (fun u3 => f_X11_feed_23 n x1 x2 x3 x4 x5 (x6 + (1 : Int32)) u3))) else none) else (if z_in (u 0 8) 400 = true then (z_let (z_up u 5 (u 0 8).toNatClampNeg ((z_ushr x4 ((24 : Int32) - ((8 : Int32) * (z_rem x6 (4 : Int32))))) &&& (255 : Int32))) (fun u4 => z_let (z_up u4 0 8 ((u4 0 8) + (1 : Int32))) (fun u5 => f_X11_feed_23 n x1 x2 x3 x4 x5 (x6 + (1 : Int32)) u5))) else none)) else (if z_in (u 0 8) 400 = true then (z_let (z_up u 5 (u 0 8).toNatClampNeg ((z_ushr x3 ((24 : Int32) - ((8 : Int32) * (z_rem x6 (4 : Int32))))) &&& (255 : Int32))) (fun u6 => z_let (z_up u6 0 8 ((u6 0 8) + (1 : Int32))) (fun u7 => f_X11_feed_23 n x1 x2 x3 x4 x5 (x6 + (1 : Int32)) u7))) else none)) else (if z_in (u 0 8) 400 = true then (z_let (z_up u 5 (u 0 8).toNatClampNeg ((z_ushr x2 ((24 : Int32) - ((8 : Int32) * (z_rem x6 (4 : Int32))))) &&& (255 : Int32))) (fun u8 => z_let (z_up u8 0 8 ((u8 0 8) + (1 : Int32))) (fun u9 => f_X11_feed_23 n x1 x2 x3 x4 x5 (x6 + (1 : Int32)) u9))) else none)) else (if z_in (u 0 8) 400 = true then (z_let (z_up u 5 (u 0 8).toNatClampNeg ((z_ushr x1 ((24 : Int32) - ((8 : Int32) * (z_rem x6 (4 : Int32))))) &&& (255 : Int32))) (fun u10 => z_let (z_up u10 0 8 ((u10 0 8) + (1 : Int32))) (fun u11 => f_X11_feed_23 n x1 x2 x3 x4 x5 (x6 + (1 : Int32)) u11))) else none))
theorem f_X11_feed_23_s (n : Nat) (x1 : Int32) (x2 : Int32) (x3 : Int32) (x4 : Int32) (x5 : Int32) (x6 : Int32) (u : zU) : f_X11_feed_23 (n + 1) x1 x2 x3 x4 x5 x6 u = if (20 : Int32) ≤ x6 then (some (u 0 8, u)) else (if (4 : Int32) ≤ x6 then (if (8 : Int32) ≤ x6 then (if (12 : Int32) ≤ x6 then (if (16 : Int32) ≤ x6 then (if z_in (u 0 8) 400 = true then (z_let (z_up u 5 (u 0 8).toNatClampNeg ((z_ushr x5 ((24 : Int32) - ((8 : Int32) * (z_rem x6 (4 : Int32))))) &&& (255 : Int32))) (fun u2 => z_let (z_up u2 0 8 ((u2 0 8) + (1 : Int32))) (fun u3 => f_X11_feed_23 n x1 x2 x3 x4 x5 (x6 + (1 : Int32)) u3))) else none) else (if z_in (u 0 8) 400 = true then (z_let (z_up u 5 (u 0 8).toNatClampNeg ((z_ushr x4 ((24 : Int32) - ((8 : Int32) * (z_rem x6 (4 : Int32))))) &&& (255 : Int32))) (fun u4 => z_let (z_up u4 0 8 ((u4 0 8) + (1 : Int32))) (fun u5 => f_X11_feed_23 n x1 x2 x3 x4 x5 (x6 + (1 : Int32)) u5))) else none)) else (if z_in (u 0 8) 400 = true then (z_let (z_up u 5 (u 0 8).toNatClampNeg ((z_ushr x3 ((24 : Int32) - ((8 : Int32) * (z_rem x6 (4 : Int32))))) &&& (255 : Int32))) (fun u6 => z_let (z_up u6 0 8 ((u6 0 8) + (1 : Int32))) (fun u7 => f_X11_feed_23 n x1 x2 x3 x4 x5 (x6 + (1 : Int32)) u7))) else none)) else (if z_in (u 0 8) 400 = true then (z_let (z_up u 5 (u 0 8).toNatClampNeg ((z_ushr x2 ((24 : Int32) - ((8 : Int32) * (z_rem x6 (4 : Int32))))) &&& (255 : Int32))) (fun u8 => z_let (z_up u8 0 8 ((u8 0 8) + (1 : Int32))) (fun u9 => f_X11_feed_23 n x1 x2 x3 x4 x5 (x6 + (1 : Int32)) u9))) else none)) else (if z_in (u 0 8) 400 = true then (z_let (z_up u 5 (u 0 8).toNatClampNeg ((z_ushr x1 ((24 : Int32) - ((8 : Int32) * (z_rem x6 (4 : Int32))))) &&& (255 : Int32))) (fun u10 => z_let (z_up u10 0 8 ((u10 0 8) + (1 : Int32))) (fun u11 => f_X11_feed_23 n x1 x2 x3 x4 x5 (x6 + (1 : Int32)) u11))) else none)) := rfl
def f_X11_feed (a1 : Int32) (a2 : Int32) (a3 : Int32) (a4 : Int32) (a5 : Int32) (u : zU) : Option (Int32 × zU) :=
  z_let (z_up u 0 0 (0 : Int32)) (fun u1 => if ((u1 0 8) + (20 : Int32)) ≤ (400 : Int32) then (f_X11_feed_23 5000 a1 a2 a3 a4 a5 (0 : Int32) u1) else (some ((-1 : Int32), u1)))
set_option maxRecDepth 100000 in
set_option maxHeartbeats 4000000 in
theorem l_X11_feed_23 {l : Launch} {D : zD} {A : Nat → Prop} {b : Nat} {p : Program} {e : Env} {s : State} {m : MethodId} {args : Array Value} {below : List Frame} {meth : Method} {c : Code} {v : Int32} {u' : zU} (C0 : z_C p c cX11_feed s m args yX11_feed.cls D A) (hr : meth.sig.returnType = (some .int)) (hml : c.maxLocals = 8) (hlk : meth.locks = false) : ∀ (n : Nat) (x1 : Int32) (x2 : Int32) (x3 : Int32) (x4 : Int32) (x5 : Int32) (x6 : Int32) (u : zU) (H : Heap) (locs : List Loc) (ls : Array Slot), f_X11_feed_23 n x1 x2 x3 x4 x5 x6 u = some (v, u') → z_W D A b gM u H → va_S A s.heap H locs → lv_has ls 8 [(0, .ref (b + 0)), (1, .int x1), (2, .int x2), (3, .int x3), (4, .int x4), (5, .int x5), (6, .int x6)] → W p l e { frames := 0, cells := 0, slots := 0, locals := 0 } s m args below meth c H locs 0 0 (z_End D A b gM below args s (some (.int v)) u') (F0 m 23 ls []) := by
  have hx := C0.1
  have hb := C0.2.1
  intro n
  induction n with
  | zero => intro x1 x2 x3 x4 x5 x6 u H locs ls h hW hS hl; cases h
  | succ n ih =>
    intro x1 x2 x3 x4 x5 x6 u H locs ls h hW hS hl
    rw [f_X11_feed_23_s] at h
    refine lv_iload hx hb dX11_feed_23 (lv_at hl 6 rfl) ?_
    refine lv_bipush (v := (20 : Int32)) hx hb dX11_feed_25 (by decide) ?_
    refine lv_icmp_ge (tgt := 120) hx hb dX11_feed_27 (by decide) (fun hc => ?_) (fun hc => ?_)
    · replace h := z_t h hc
      clear hc
      refine lv_aload_n hx hb dX11_feed_120 rfl (lv_at hl 0 rfl) ?_
      refine z_geti C0 hW fl_X11_73 rfl rfl dX11_feed_121 ?_
      cases h
      exact z_iret C0 hr hlk hW hS dX11_feed_124
    · replace h := z_f h hc
      clear hc
      refine lv_iload hx hb dX11_feed_30 (lv_at hl 6 rfl) ?_
      refine lv_iconst (v := (4 : Int32)) hx hb dX11_feed_32 (by decide) ?_
      refine lv_icmp_ge (tgt := 40) hx hb dX11_feed_33 (by decide) (fun hc => ?_) (fun hc => ?_)
      · replace h := z_t h hc
        clear hc
        refine lv_iload hx hb dX11_feed_40 (lv_at hl 6 rfl) ?_
        refine lv_bipush (v := (8 : Int32)) hx hb dX11_feed_42 (by decide) ?_
        refine lv_icmp_ge (tgt := 51) hx hb dX11_feed_44 (by decide) (fun hc => ?_) (fun hc => ?_)
        · replace h := z_t h hc
          clear hc
          refine lv_iload hx hb dX11_feed_51 (lv_at hl 6 rfl) ?_
          refine lv_bipush (v := (12 : Int32)) hx hb dX11_feed_53 (by decide) ?_
          refine lv_icmp_ge (tgt := 62) hx hb dX11_feed_55 (by decide) (fun hc => ?_) (fun hc => ?_)
          · replace h := z_t h hc
            clear hc
            refine lv_iload hx hb dX11_feed_62 (lv_at hl 6 rfl) ?_
            refine lv_bipush (v := (16 : Int32)) hx hb dX11_feed_64 (by decide) ?_
            refine lv_icmp_ge (tgt := 74) hx hb dX11_feed_66 (by decide) (fun hc => ?_) (fun hc => ?_)
            · replace h := z_t h hc
              clear hc
              refine lv_iload hx hb dX11_feed_74 (lv_at hl 5 rfl) ?_
              refine lv_istore (lv' := [(7, .int x5), (0, .ref (b + 0)), (1, .int x1), (2, .int x2), (3, .int x3), (4, .int x4), (5, .int x5), (6, .int x6)]) hx hb dX11_feed_76 hl (by decide) rfl (fun ls hl => ?_)
              refine lv_aload_n hx hb dX11_feed_78 rfl (lv_at hl 1 rfl) ?_
              refine z_getr (o := 5) C0 hW fl_X11_22 rfl rfl rfl dX11_feed_79 ?_
              refine lv_aload_n hx hb dX11_feed_82 rfl (lv_at hl 1 rfl) ?_
              refine z_geti C0 hW fl_X11_73 rfl rfl dX11_feed_83 ?_
              refine lv_iload hx hb dX11_feed_86 (lv_at hl 0 rfl) ?_
              refine lv_bipush (v := (24 : Int32)) hx hb dX11_feed_88 (by decide) ?_
              refine lv_bipush (v := (8 : Int32)) hx hb dX11_feed_90 (by decide) ?_
              refine lv_iload hx hb dX11_feed_92 (lv_at hl 7 rfl) ?_
              refine lv_iconst (v := (4 : Int32)) hx hb dX11_feed_94 (by decide) ?_
              refine lv_irem hx hb dX11_feed_95 (by decide) ?_
              refine lv_imul hx hb dX11_feed_96 ?_
              refine lv_isub hx hb dX11_feed_97 ?_
              refine lv_iushr (v := z_ushr x5 ((24 : Int32) - ((8 : Int32) * (z_rem x6 (4 : Int32))))) hx hb dX11_feed_98 rfl ?_
              refine lv_sipush (v := (255 : Int32)) hx hb dX11_feed_99 (by decide) ?_
              refine lv_iand hx hb dX11_feed_102 ?_
              replace h := z_if h
              obtain ⟨hin, h⟩ := h
              refine z_iast (n := 400) C0 hW hS rfl rfl hin rfl dX11_feed_103 (fun H locs u2 e1 hW hS => ?_)
              replace h := z_ly h e1
              clear e1
              refine lv_aload_n hx hb dX11_feed_104 rfl (lv_at hl 1 rfl) ?_
              refine lv_dup hx hb dX11_feed_105 rfl ?_
              refine z_geti C0 hW fl_X11_73 rfl rfl dX11_feed_106 ?_
              refine lv_iconst (v := (1 : Int32)) hx hb dX11_feed_109 (by decide) ?_
              refine lv_iadd hx hb dX11_feed_110 ?_
              refine z_puti C0 hW hS fl_X11_73 rfl rfl rfl rfl dX11_feed_111 (fun H locs u3 e1 hW hS => ?_)
              replace h := z_ly h e1
              clear e1
              refine lv_iinc (v := x6 + (1 : Int32)) (lv' := [(6, .int (x6 + (1 : Int32))), (7, .int x5), (0, .ref (b + 0)), (1, .int x1), (2, .int x2), (3, .int x3), (4, .int x4), (5, .int x5)]) hx hb dX11_feed_114 hl (k := 7) rfl rfl (by decide) rfl (fun ls hl => ?_)
              refine lv_goto (tgt := 23) hx hb dX11_feed_117 (by decide) ?_
              exact ih _ _ _ _ _ _ _ _ _ _ h hW hS (lv_sub hl [2, 3, 4, 5, 6, 7, 0] rfl)
            · replace h := z_f h hc
              clear hc
              refine lv_iload hx hb dX11_feed_69 (lv_at hl 4 rfl) ?_
              refine lv_goto (tgt := 76) hx hb dX11_feed_71 (by decide) ?_
              refine lv_istore (lv' := [(7, .int x4), (0, .ref (b + 0)), (1, .int x1), (2, .int x2), (3, .int x3), (4, .int x4), (5, .int x5), (6, .int x6)]) hx hb dX11_feed_76 hl (by decide) rfl (fun ls hl => ?_)
              refine lv_aload_n hx hb dX11_feed_78 rfl (lv_at hl 1 rfl) ?_
              refine z_getr (o := 5) C0 hW fl_X11_22 rfl rfl rfl dX11_feed_79 ?_
              refine lv_aload_n hx hb dX11_feed_82 rfl (lv_at hl 1 rfl) ?_
              refine z_geti C0 hW fl_X11_73 rfl rfl dX11_feed_83 ?_
              refine lv_iload hx hb dX11_feed_86 (lv_at hl 0 rfl) ?_
              refine lv_bipush (v := (24 : Int32)) hx hb dX11_feed_88 (by decide) ?_
              refine lv_bipush (v := (8 : Int32)) hx hb dX11_feed_90 (by decide) ?_
              refine lv_iload hx hb dX11_feed_92 (lv_at hl 7 rfl) ?_
              refine lv_iconst (v := (4 : Int32)) hx hb dX11_feed_94 (by decide) ?_
              refine lv_irem hx hb dX11_feed_95 (by decide) ?_
              refine lv_imul hx hb dX11_feed_96 ?_
              refine lv_isub hx hb dX11_feed_97 ?_
              refine lv_iushr (v := z_ushr x4 ((24 : Int32) - ((8 : Int32) * (z_rem x6 (4 : Int32))))) hx hb dX11_feed_98 rfl ?_
              refine lv_sipush (v := (255 : Int32)) hx hb dX11_feed_99 (by decide) ?_
              refine lv_iand hx hb dX11_feed_102 ?_
              replace h := z_if h
              obtain ⟨hin, h⟩ := h
              refine z_iast (n := 400) C0 hW hS rfl rfl hin rfl dX11_feed_103 (fun H locs u4 e1 hW hS => ?_)
              replace h := z_ly h e1
              clear e1
              refine lv_aload_n hx hb dX11_feed_104 rfl (lv_at hl 1 rfl) ?_
              refine lv_dup hx hb dX11_feed_105 rfl ?_
              refine z_geti C0 hW fl_X11_73 rfl rfl dX11_feed_106 ?_
              refine lv_iconst (v := (1 : Int32)) hx hb dX11_feed_109 (by decide) ?_
              refine lv_iadd hx hb dX11_feed_110 ?_
              refine z_puti C0 hW hS fl_X11_73 rfl rfl rfl rfl dX11_feed_111 (fun H locs u5 e1 hW hS => ?_)
              replace h := z_ly h e1
              clear e1
              refine lv_iinc (v := x6 + (1 : Int32)) (lv' := [(6, .int (x6 + (1 : Int32))), (7, .int x4), (0, .ref (b + 0)), (1, .int x1), (2, .int x2), (3, .int x3), (4, .int x4), (5, .int x5)]) hx hb dX11_feed_114 hl (k := 7) rfl rfl (by decide) rfl (fun ls hl => ?_)
              refine lv_goto (tgt := 23) hx hb dX11_feed_117 (by decide) ?_
              exact ih _ _ _ _ _ _ _ _ _ _ h hW hS (lv_sub hl [2, 3, 4, 5, 6, 7, 0] rfl)
          · replace h := z_f h hc
            clear hc
            refine lv_iload_n hx hb dX11_feed_58 rfl (lv_at hl 3 rfl) ?_
            refine lv_goto (tgt := 76) hx hb dX11_feed_59 (by decide) ?_
            refine lv_istore (lv' := [(7, .int x3), (0, .ref (b + 0)), (1, .int x1), (2, .int x2), (3, .int x3), (4, .int x4), (5, .int x5), (6, .int x6)]) hx hb dX11_feed_76 hl (by decide) rfl (fun ls hl => ?_)
            refine lv_aload_n hx hb dX11_feed_78 rfl (lv_at hl 1 rfl) ?_
            refine z_getr (o := 5) C0 hW fl_X11_22 rfl rfl rfl dX11_feed_79 ?_
            refine lv_aload_n hx hb dX11_feed_82 rfl (lv_at hl 1 rfl) ?_
            refine z_geti C0 hW fl_X11_73 rfl rfl dX11_feed_83 ?_
            refine lv_iload hx hb dX11_feed_86 (lv_at hl 0 rfl) ?_
            refine lv_bipush (v := (24 : Int32)) hx hb dX11_feed_88 (by decide) ?_
            refine lv_bipush (v := (8 : Int32)) hx hb dX11_feed_90 (by decide) ?_
            refine lv_iload hx hb dX11_feed_92 (lv_at hl 7 rfl) ?_
            refine lv_iconst (v := (4 : Int32)) hx hb dX11_feed_94 (by decide) ?_
            refine lv_irem hx hb dX11_feed_95 (by decide) ?_
            refine lv_imul hx hb dX11_feed_96 ?_
            refine lv_isub hx hb dX11_feed_97 ?_
            refine lv_iushr (v := z_ushr x3 ((24 : Int32) - ((8 : Int32) * (z_rem x6 (4 : Int32))))) hx hb dX11_feed_98 rfl ?_
            refine lv_sipush (v := (255 : Int32)) hx hb dX11_feed_99 (by decide) ?_
            refine lv_iand hx hb dX11_feed_102 ?_
            replace h := z_if h
            obtain ⟨hin, h⟩ := h
            refine z_iast (n := 400) C0 hW hS rfl rfl hin rfl dX11_feed_103 (fun H locs u6 e1 hW hS => ?_)
            replace h := z_ly h e1
            clear e1
            refine lv_aload_n hx hb dX11_feed_104 rfl (lv_at hl 1 rfl) ?_
            refine lv_dup hx hb dX11_feed_105 rfl ?_
            refine z_geti C0 hW fl_X11_73 rfl rfl dX11_feed_106 ?_
            refine lv_iconst (v := (1 : Int32)) hx hb dX11_feed_109 (by decide) ?_
            refine lv_iadd hx hb dX11_feed_110 ?_
            refine z_puti C0 hW hS fl_X11_73 rfl rfl rfl rfl dX11_feed_111 (fun H locs u7 e1 hW hS => ?_)
            replace h := z_ly h e1
            clear e1
            refine lv_iinc (v := x6 + (1 : Int32)) (lv' := [(6, .int (x6 + (1 : Int32))), (7, .int x3), (0, .ref (b + 0)), (1, .int x1), (2, .int x2), (3, .int x3), (4, .int x4), (5, .int x5)]) hx hb dX11_feed_114 hl (k := 7) rfl rfl (by decide) rfl (fun ls hl => ?_)
            refine lv_goto (tgt := 23) hx hb dX11_feed_117 (by decide) ?_
            exact ih _ _ _ _ _ _ _ _ _ _ h hW hS (lv_sub hl [2, 3, 4, 5, 6, 7, 0] rfl)
        · replace h := z_f h hc
          clear hc
          refine lv_iload_n hx hb dX11_feed_47 rfl (lv_at hl 2 rfl) ?_
          refine lv_goto (tgt := 76) hx hb dX11_feed_48 (by decide) ?_
          refine lv_istore (lv' := [(7, .int x2), (0, .ref (b + 0)), (1, .int x1), (2, .int x2), (3, .int x3), (4, .int x4), (5, .int x5), (6, .int x6)]) hx hb dX11_feed_76 hl (by decide) rfl (fun ls hl => ?_)
          refine lv_aload_n hx hb dX11_feed_78 rfl (lv_at hl 1 rfl) ?_
          refine z_getr (o := 5) C0 hW fl_X11_22 rfl rfl rfl dX11_feed_79 ?_
          refine lv_aload_n hx hb dX11_feed_82 rfl (lv_at hl 1 rfl) ?_
          refine z_geti C0 hW fl_X11_73 rfl rfl dX11_feed_83 ?_
          refine lv_iload hx hb dX11_feed_86 (lv_at hl 0 rfl) ?_
          refine lv_bipush (v := (24 : Int32)) hx hb dX11_feed_88 (by decide) ?_
          refine lv_bipush (v := (8 : Int32)) hx hb dX11_feed_90 (by decide) ?_
          refine lv_iload hx hb dX11_feed_92 (lv_at hl 7 rfl) ?_
          refine lv_iconst (v := (4 : Int32)) hx hb dX11_feed_94 (by decide) ?_
          refine lv_irem hx hb dX11_feed_95 (by decide) ?_
          refine lv_imul hx hb dX11_feed_96 ?_
          refine lv_isub hx hb dX11_feed_97 ?_
          refine lv_iushr (v := z_ushr x2 ((24 : Int32) - ((8 : Int32) * (z_rem x6 (4 : Int32))))) hx hb dX11_feed_98 rfl ?_
          refine lv_sipush (v := (255 : Int32)) hx hb dX11_feed_99 (by decide) ?_
          refine lv_iand hx hb dX11_feed_102 ?_
          replace h := z_if h
          obtain ⟨hin, h⟩ := h
          refine z_iast (n := 400) C0 hW hS rfl rfl hin rfl dX11_feed_103 (fun H locs u8 e1 hW hS => ?_)
          replace h := z_ly h e1
          clear e1
          refine lv_aload_n hx hb dX11_feed_104 rfl (lv_at hl 1 rfl) ?_
          refine lv_dup hx hb dX11_feed_105 rfl ?_
          refine z_geti C0 hW fl_X11_73 rfl rfl dX11_feed_106 ?_
          refine lv_iconst (v := (1 : Int32)) hx hb dX11_feed_109 (by decide) ?_
          refine lv_iadd hx hb dX11_feed_110 ?_
          refine z_puti C0 hW hS fl_X11_73 rfl rfl rfl rfl dX11_feed_111 (fun H locs u9 e1 hW hS => ?_)
          replace h := z_ly h e1
          clear e1
          refine lv_iinc (v := x6 + (1 : Int32)) (lv' := [(6, .int (x6 + (1 : Int32))), (7, .int x2), (0, .ref (b + 0)), (1, .int x1), (2, .int x2), (3, .int x3), (4, .int x4), (5, .int x5)]) hx hb dX11_feed_114 hl (k := 7) rfl rfl (by decide) rfl (fun ls hl => ?_)
          refine lv_goto (tgt := 23) hx hb dX11_feed_117 (by decide) ?_
          exact ih _ _ _ _ _ _ _ _ _ _ h hW hS (lv_sub hl [2, 3, 4, 5, 6, 7, 0] rfl)
      · replace h := z_f h hc
        clear hc
        refine lv_iload_n hx hb dX11_feed_36 rfl (lv_at hl 1 rfl) ?_
        refine lv_goto (tgt := 76) hx hb dX11_feed_37 (by decide) ?_
        refine lv_istore (lv' := [(7, .int x1), (0, .ref (b + 0)), (1, .int x1), (2, .int x2), (3, .int x3), (4, .int x4), (5, .int x5), (6, .int x6)]) hx hb dX11_feed_76 hl (by decide) rfl (fun ls hl => ?_)
        refine lv_aload_n hx hb dX11_feed_78 rfl (lv_at hl 1 rfl) ?_
        refine z_getr (o := 5) C0 hW fl_X11_22 rfl rfl rfl dX11_feed_79 ?_
        refine lv_aload_n hx hb dX11_feed_82 rfl (lv_at hl 1 rfl) ?_
        refine z_geti C0 hW fl_X11_73 rfl rfl dX11_feed_83 ?_
        refine lv_iload hx hb dX11_feed_86 (lv_at hl 0 rfl) ?_
        refine lv_bipush (v := (24 : Int32)) hx hb dX11_feed_88 (by decide) ?_
        refine lv_bipush (v := (8 : Int32)) hx hb dX11_feed_90 (by decide) ?_
        refine lv_iload hx hb dX11_feed_92 (lv_at hl 7 rfl) ?_
        refine lv_iconst (v := (4 : Int32)) hx hb dX11_feed_94 (by decide) ?_
        refine lv_irem hx hb dX11_feed_95 (by decide) ?_
        refine lv_imul hx hb dX11_feed_96 ?_
        refine lv_isub hx hb dX11_feed_97 ?_
        refine lv_iushr (v := z_ushr x1 ((24 : Int32) - ((8 : Int32) * (z_rem x6 (4 : Int32))))) hx hb dX11_feed_98 rfl ?_
        refine lv_sipush (v := (255 : Int32)) hx hb dX11_feed_99 (by decide) ?_
        refine lv_iand hx hb dX11_feed_102 ?_
        replace h := z_if h
        obtain ⟨hin, h⟩ := h
        refine z_iast (n := 400) C0 hW hS rfl rfl hin rfl dX11_feed_103 (fun H locs u10 e1 hW hS => ?_)
        replace h := z_ly h e1
        clear e1
        refine lv_aload_n hx hb dX11_feed_104 rfl (lv_at hl 1 rfl) ?_
        refine lv_dup hx hb dX11_feed_105 rfl ?_
        refine z_geti C0 hW fl_X11_73 rfl rfl dX11_feed_106 ?_
        refine lv_iconst (v := (1 : Int32)) hx hb dX11_feed_109 (by decide) ?_
        refine lv_iadd hx hb dX11_feed_110 ?_
        refine z_puti C0 hW hS fl_X11_73 rfl rfl rfl rfl dX11_feed_111 (fun H locs u11 e1 hW hS => ?_)
        replace h := z_ly h e1
        clear e1
        refine lv_iinc (v := x6 + (1 : Int32)) (lv' := [(6, .int (x6 + (1 : Int32))), (7, .int x1), (0, .ref (b + 0)), (1, .int x1), (2, .int x2), (3, .int x3), (4, .int x4), (5, .int x5)]) hx hb dX11_feed_114 hl (k := 7) rfl rfl (by decide) rfl (fun ls hl => ?_)
        refine lv_goto (tgt := 23) hx hb dX11_feed_117 (by decide) ?_
        exact ih _ _ _ _ _ _ _ _ _ _ h hW hS (lv_sub hl [2, 3, 4, 5, 6, 7, 0] rfl)
theorem f_X11_feed_e (a1 : Int32) (a2 : Int32) (a3 : Int32) (a4 : Int32) (a5 : Int32) (u : zU) : f_X11_feed a1 a2 a3 a4 a5 u = z_let (z_up u 0 0 (0 : Int32)) (fun u1 => if ((u1 0 8) + (20 : Int32)) ≤ (400 : Int32) then (f_X11_feed_23 5000 a1 a2 a3 a4 a5 (0 : Int32) u1) else (some ((-1 : Int32), u1))) := rfl
set_option maxRecDepth 100000 in
set_option maxHeartbeats 4000000 in
theorem c_X11_feed (l : Launch) (D : zD) (A : Nat → Prop) (b : Nat) (a1 : Int32) (a2 : Int32) (a3 : Int32) (a4 : Int32) (a5 : Int32) (u : zU) {v : Int32} {u' : zU} (h : f_X11_feed a1 a2 a3 a4 a5 u = some (v, u')) : z_M l D A b gM yX11_feed cX11_feed 8 (some .int) 0 0 [.ref (b + 0), .int a1, .int a2, .int a3, .int a4, .int a5] u (some (.int v)) u' := by
  refine z_enter (by decide) (Nat.le_of_ble_eq_true rfl) ?_
  intro p e s m below meth c ls C0 hr hml hlk hW hS hl
  have hl : lv_has ls 8 [(0, .ref (b + 0)), (1, .int a1), (2, .int a2), (3, .int a3), (4, .int a4), (5, .int a5)] := hl
  have hx := C0.1
  have hb := C0.2.1
  rw [f_X11_feed_e] at h
  refine lv_aload_n hx hb dX11_feed_0 rfl (lv_at hl 0 rfl) ?_
  refine lv_iconst (v := (0 : Int32)) hx hb dX11_feed_1 (by decide) ?_
  refine z_puti C0 hW hS fl_X11_42 rfl rfl rfl rfl dX11_feed_2 (fun H locs u1 e1 hW hS => ?_)
  replace h := z_ly h e1
  clear e1
  refine lv_aload_n hx hb dX11_feed_5 rfl (lv_at hl 0 rfl) ?_
  refine z_geti C0 hW fl_X11_73 rfl rfl dX11_feed_6 ?_
  refine lv_bipush (v := (20 : Int32)) hx hb dX11_feed_9 (by decide) ?_
  refine lv_iadd hx hb dX11_feed_11 ?_
  refine lv_sipush (v := (400 : Int32)) hx hb dX11_feed_12 (by decide) ?_
  refine lv_icmp_le (tgt := 20) hx hb dX11_feed_15 (by decide) (fun hc => ?_) (fun hc => ?_)
  · replace h := z_t h hc
    clear hc
    refine lv_iconst (v := (0 : Int32)) hx hb dX11_feed_20 (by decide) ?_
    refine lv_istore (lv' := [(6, .int (0 : Int32)), (0, .ref (b + 0)), (1, .int a1), (2, .int a2), (3, .int a3), (4, .int a4), (5, .int a5)]) hx hb dX11_feed_21 hl (by decide) rfl (fun ls hl => ?_)
    exact l_X11_feed_23 C0 hr hml hlk 5000 _ _ _ _ _ _ _ _ _ _ h hW hS (lv_sub hl [1, 2, 3, 4, 5, 6, 0] rfl)
  · replace h := z_f h hc
    clear hc
    refine lv_iconst (v := (-1 : Int32)) hx hb dX11_feed_18 (by decide) ?_
    cases h
    exact z_iret C0 hr hlk hW hS dX11_feed_19
def f_X11_end (a1 : Int32) (u : zU) : Bool × zU :=
  z_let (z_up u 0 0 (0 : Int32)) (fun u1 => z_let (f_X11_isIn a1 (0 : Int32) (u1 0 8) u1) (fun t2 => if t2 = true then (z_let (z_up u1 0 8 a1) (fun u3 => (true, u3))) else ((false, u1))))
theorem f_X11_end_e (a1 : Int32) (u : zU) : f_X11_end a1 u = z_let (z_up u 0 0 (0 : Int32)) (fun u1 => z_let (f_X11_isIn a1 (0 : Int32) (u1 0 8) u1) (fun t2 => if t2 = true then (z_let (z_up u1 0 8 a1) (fun u3 => (true, u3))) else ((false, u1)))) := rfl
set_option maxRecDepth 100000 in
set_option maxHeartbeats 4000000 in
theorem c_X11_end (l : Launch) (D : zD) (A : Nat → Prop) (b : Nat) (a1 : Int32) (u : zU) {v : Bool} {u' : zU} (h : f_X11_end a1 u = (v, u')) : z_M l D A b gM yX11_end cX11_end 2 (some .boolean) 1 22 [.ref (b + 0), .int a1] u (some (.int (bI v))) u' := by
  refine z_enter (by decide) (Nat.le_of_ble_eq_true rfl) ?_
  intro p e s m below meth c ls C0 hr hml hlk hW hS hl
  have hl : lv_has ls 2 [(0, .ref (b + 0)), (1, .int a1)] := hl
  have hx := C0.1
  have hb := C0.2.1
  rw [f_X11_end_e] at h
  refine lv_aload_n hx hb dX11_end_0 rfl (lv_at hl 0 rfl) ?_
  refine lv_iconst (v := (0 : Int32)) hx hb dX11_end_1 (by decide) ?_
  refine z_puti C0 hW hS fl_X11_42 rfl rfl rfl rfl dX11_end_2 (fun H locs u1 e1 hW hS => ?_)
  replace h := z_ly h e1
  clear e1
  refine lv_iload_n hx hb dX11_end_5 rfl (lv_at hl 1 rfl) ?_
  refine lv_iconst (v := (0 : Int32)) hx hb dX11_end_6 (by decide) ?_
  refine lv_aload_n hx hb dX11_end_7 rfl (lv_at hl 0 rfl) ?_
  refine z_geti C0 hW fl_X11_73 rfl rfl dX11_end_8 ?_
  obtain ⟨t2, hq⟩ : ∃ y, f_X11_isIn a1 (0 : Int32) (u1 0 8) u1 = y := ⟨_, rfl⟩
  replace h := z_lz h hq
  refine z_csi (As := [.int a1, .int (0 : Int32), .int (u1 0 8)]) C0 hml hl.1 hW hS (c_X11_isIn l D A b a1 (0 : Int32) (u1 0 8) u1 hq) ms_X11_45 ⟨Nat.le_of_ble_eq_true rfl, Nat.le_of_ble_eq_true rfl⟩ rfl rfl (Nat.le_of_ble_eq_true rfl) dX11_end_11 (fun H locs hW hS => ?_)
  clear hq
  refine z_ifneZ C0 (tgt := 19) dX11_end_14 (by decide) (fun hc => ?_) (fun hc => ?_)
  · replace h := z_t h hc
    clear hc
    refine lv_aload_n hx hb dX11_end_19 rfl (lv_at hl 0 rfl) ?_
    refine lv_iload_n hx hb dX11_end_20 rfl (lv_at hl 1 rfl) ?_
    refine z_puti C0 hW hS fl_X11_73 rfl rfl rfl rfl dX11_end_21 (fun H locs u3 e1 hW hS => ?_)
    replace h := z_ly h e1
    clear e1
    refine lv_iconst (v := (1 : Int32)) hx hb dX11_end_24 (by decide) ?_
    cases h
    exact z_zret (x := true) C0 hr hlk hW hS dX11_end_25
  · replace h := z_ff h hc
    clear hc
    refine lv_iconst (v := (0 : Int32)) hx hb dX11_end_17 (by decide) ?_
    cases h
    exact z_zret (x := false) C0 hr hlk hW hS dX11_end_18
def f_X11_letter (a1 : Int32) (u : zU) : Option (Int32) :=
  if (u 0 9) = (-1 : Int32) then (if z_in a1 400 = true then (z_let (u 5 (a1).toNatClampNeg) (fun z2 => some z2)) else none) else (if z_in ((u 0 9) + a1) 705 = true then (z_let (u 1 ((u 0 9) + a1).toNatClampNeg) (fun z1 => some z1)) else none)
theorem f_X11_letter_e (a1 : Int32) (u : zU) : f_X11_letter a1 u = if (u 0 9) = (-1 : Int32) then (if z_in a1 400 = true then (z_let (u 5 (a1).toNatClampNeg) (fun z2 => some z2)) else none) else (if z_in ((u 0 9) + a1) 705 = true then (z_let (u 1 ((u 0 9) + a1).toNatClampNeg) (fun z1 => some z1)) else none) := rfl
set_option maxRecDepth 100000 in
set_option maxHeartbeats 4000000 in
theorem c_X11_letter (l : Launch) (D : zD) (A : Nat → Prop) (b : Nat) (a1 : Int32) (u : zU) {v : Int32} (h : f_X11_letter a1 u = some v) : z_M l D A b gM yX11_letter cX11_letter 2 (some .int) 0 0 [.ref (b + 0), .int a1] u (some (.int v)) u := by
  refine z_enter (by decide) (Nat.le_of_ble_eq_true rfl) ?_
  intro p e s m below meth c ls C0 hr hml hlk hW hS hl
  have hl : lv_has ls 2 [(0, .ref (b + 0)), (1, .int a1)] := hl
  have hx := C0.1
  have hb := C0.2.1
  rw [f_X11_letter_e] at h
  refine lv_aload_n hx hb dX11_letter_0 rfl (lv_at hl 0 rfl) ?_
  refine z_geti C0 hW fl_X11_76 rfl rfl dX11_letter_1 ?_
  refine lv_iconst (v := (-1 : Int32)) hx hb dX11_letter_4 (by decide) ?_
  refine lv_icmp_ne (tgt := 17) hx hb dX11_letter_5 (by decide) (fun hc => ?_) (fun hc => ?_)
  · replace h := z_f h hc
    clear hc
    refine lv_aload_n hx hb dX11_letter_17 rfl (lv_at hl 0 rfl) ?_
    refine z_getr (o := 1) C0 hW fl_X11_7 rfl rfl rfl dX11_letter_18 ?_
    refine lv_aload_n hx hb dX11_letter_21 rfl (lv_at hl 0 rfl) ?_
    refine z_geti C0 hW fl_X11_76 rfl rfl dX11_letter_22 ?_
    refine lv_iload_n hx hb dX11_letter_25 rfl (lv_at hl 1 rfl) ?_
    refine lv_iadd hx hb dX11_letter_26 ?_
    replace h := z_if h
    obtain ⟨hin, h⟩ := h
    refine z_iald (n := 705) C0 hW rfl rfl hin rfl dX11_letter_27 ?_
    clear hin
    refine lv_topi (fun z1 e1 => ?_)
    replace h := z_ly h e1
    clear e1
    cases h
    exact z_iret C0 hr hlk hW hS dX11_letter_28
  · replace h := z_t h hc
    clear hc
    refine lv_aload_n hx hb dX11_letter_8 rfl (lv_at hl 0 rfl) ?_
    refine z_getr (o := 5) C0 hW fl_X11_22 rfl rfl rfl dX11_letter_9 ?_
    refine lv_iload_n hx hb dX11_letter_12 rfl (lv_at hl 1 rfl) ?_
    replace h := z_if h
    obtain ⟨hin, h⟩ := h
    refine z_iald (n := 400) C0 hW rfl rfl hin rfl dX11_letter_13 ?_
    clear hin
    refine lv_topi (fun z2 e1 => ?_)
    replace h := z_ly h e1
    clear e1
    refine lv_goto (tgt := 28) hx hb dX11_letter_14 (by decide) ?_
    cases h
    exact z_iret C0 hr hlk hW hS dX11_letter_28
def f_X11_skip_0 : Nat → zU → Option (zU)
  | 0, _ => none
  | n + 1, u =>
    if (u 0 10) ≤ (u 0 11) then (some u) else ((f_X11_letter (u 0 11) u).bind (fun r1 => if r1 = (32 : Int32) then (z_let (z_up u 0 11 ((u 0 11) + (1 : Int32))) (fun u2 => f_X11_skip_0 n u2)) else (some u)))
theorem f_X11_skip_0_s (n : Nat) (u : zU) : f_X11_skip_0 (n + 1) u = if (u 0 10) ≤ (u 0 11) then (some u) else ((f_X11_letter (u 0 11) u).bind (fun r1 => if r1 = (32 : Int32) then (z_let (z_up u 0 11 ((u 0 11) + (1 : Int32))) (fun u2 => f_X11_skip_0 n u2)) else (some u))) := rfl
def f_X11_skip  (u : zU) : Option (zU) :=
  f_X11_skip_0 5000 u
set_option maxRecDepth 100000 in
set_option maxHeartbeats 4000000 in
theorem l_X11_skip_0 {l : Launch} {D : zD} {A : Nat → Prop} {b : Nat} {p : Program} {e : Env} {s : State} {m : MethodId} {args : Array Value} {below : List Frame} {meth : Method} {c : Code} {u' : zU} (C0 : z_C p c cX11_skip s m args yX11_skip.cls D A) (hr : meth.sig.returnType = none) (hml : c.maxLocals = 1) (hlk : meth.locks = false) : ∀ (n : Nat) (u : zU) (H : Heap) (locs : List Loc) (ls : Array Slot), f_X11_skip_0 n u = some u' → z_W D A b gM u H → va_S A s.heap H locs → lv_has ls 1 [(0, .ref (b + 0))] → W p l e { frames := 1, cells := 0, slots := 0, locals := 21 } s m args below meth c H locs 0 0 (z_End D A b gM below args s none u') (F0 m 0 ls []) := by
  have hx := C0.1
  have hb := C0.2.1
  intro n
  induction n with
  | zero => intro u H locs ls h hW hS hl; cases h
  | succ n ih =>
    intro u H locs ls h hW hS hl
    rw [f_X11_skip_0_s] at h
    refine lv_aload_n hx hb dX11_skip_0 rfl (lv_at hl 0 rfl) ?_
    refine z_geti C0 hW fl_X11_79 rfl rfl dX11_skip_1 ?_
    refine lv_aload_n hx hb dX11_skip_4 rfl (lv_at hl 0 rfl) ?_
    refine z_geti C0 hW fl_X11_82 rfl rfl dX11_skip_5 ?_
    refine lv_icmp_ge (tgt := 37) hx hb dX11_skip_8 (by decide) (fun hc => ?_) (fun hc => ?_)
    · replace h := z_t h hc
      clear hc
      cases h
      exact z_vret C0 hr hlk hW hS dX11_skip_37
    · replace h := z_f h hc
      clear hc
      refine lv_aload_n hx hb dX11_skip_11 rfl (lv_at hl 0 rfl) ?_
      refine lv_aload_n hx hb dX11_skip_12 rfl (lv_at hl 0 rfl) ?_
      refine z_geti C0 hW fl_X11_79 rfl rfl dX11_skip_13 ?_
      replace h := z_bd h
      obtain ⟨r1, hq, h⟩ := h
      refine z_cvi (As := [.int (u 0 11)]) C0 hml hl.1 hW hS (c_X11_letter l D A b (u 0 11) u hq) mv_X11_85 rfl ⟨Nat.le_of_ble_eq_true rfl, Nat.le_of_ble_eq_true rfl⟩ rfl rfl (Nat.le_of_ble_eq_true rfl) dX11_skip_16 (fun H locs hW hS => ?_)
      clear hq
      refine lv_bipush (v := (32 : Int32)) hx hb dX11_skip_19 (by decide) ?_
      refine lv_icmp_ne (tgt := 37) hx hb dX11_skip_21 (by decide) (fun hc => ?_) (fun hc => ?_)
      · replace h := z_f h hc
        clear hc
        cases h
        exact z_vret C0 hr hlk hW hS dX11_skip_37
      · replace h := z_t h hc
        clear hc
        refine lv_aload_n hx hb dX11_skip_24 rfl (lv_at hl 0 rfl) ?_
        refine lv_dup hx hb dX11_skip_25 rfl ?_
        refine z_geti C0 hW fl_X11_79 rfl rfl dX11_skip_26 ?_
        refine lv_iconst (v := (1 : Int32)) hx hb dX11_skip_29 (by decide) ?_
        refine lv_iadd hx hb dX11_skip_30 ?_
        refine z_puti C0 hW hS fl_X11_79 rfl rfl rfl rfl dX11_skip_31 (fun H locs u2 e1 hW hS => ?_)
        replace h := z_ly h e1
        clear e1
        refine lv_goto (tgt := 0) hx hb dX11_skip_34 (by decide) ?_
        exact ih _ _ _ _ h hW hS (lv_sub hl [0] rfl)
theorem f_X11_skip_e  (u : zU) : f_X11_skip u = f_X11_skip_0 5000 u := rfl
set_option maxRecDepth 100000 in
set_option maxHeartbeats 4000000 in
theorem c_X11_skip (l : Launch) (D : zD) (A : Nat → Prop) (b : Nat)  (u : zU) {u' : zU} (h : f_X11_skip u = some u') : z_M l D A b gM yX11_skip cX11_skip 1 none 1 21 [.ref (b + 0)] u none u' := by
  refine z_enter (by decide) (Nat.le_of_ble_eq_true rfl) ?_
  intro p e s m below meth c ls C0 hr hml hlk hW hS hl
  have hl : lv_has ls 1 [(0, .ref (b + 0))] := hl
  have hx := C0.1
  have hb := C0.2.1
  rw [f_X11_skip_e] at h
  exact l_X11_skip_0 C0 hr hml hlk 5000 _ _ _ _ h hW hS (lv_sub hl [0] rfl)
def f_X11_isSign (a1 : Int32) (u : zU) : Option (Bool × zU) :=
  (f_X11_skip u).bind (fun u1 => if (u1 0 10) ≤ (u1 0 11) then (some (false, u1)) else ((f_X11_letter (u1 0 11) u1).bind (fun r2 => if r2 = a1 then (some (true, u1)) else (some (false, u1)))))
theorem f_X11_isSign_e (a1 : Int32) (u : zU) : f_X11_isSign a1 u = (f_X11_skip u).bind (fun u1 => if (u1 0 10) ≤ (u1 0 11) then (some (false, u1)) else ((f_X11_letter (u1 0 11) u1).bind (fun r2 => if r2 = a1 then (some (true, u1)) else (some (false, u1))))) := rfl
set_option maxRecDepth 100000 in
set_option maxHeartbeats 4000000 in
theorem c_X11_isSign (l : Launch) (D : zD) (A : Nat → Prop) (b : Nat) (a1 : Int32) (u : zU) {v : Bool} {u' : zU} (h : f_X11_isSign a1 u = some (v, u')) : z_M l D A b gM yX11_isSign cX11_isSign 2 (some .boolean) 2 41 [.ref (b + 0), .int a1] u (some (.int (bI v))) u' := by
  refine z_enter (by decide) (Nat.le_of_ble_eq_true rfl) ?_
  intro p e s m below meth c ls C0 hr hml hlk hW hS hl
  have hl : lv_has ls 2 [(0, .ref (b + 0)), (1, .int a1)] := hl
  have hx := C0.1
  have hb := C0.2.1
  rw [f_X11_isSign_e] at h
  refine lv_aload_n hx hb dX11_isSign_0 rfl (lv_at hl 0 rfl) ?_
  replace h := z_bd h
  obtain ⟨u1, hq, h⟩ := h
  refine z_cvv (As := []) C0 hml hl.1 hW hS (c_X11_skip l D A b u hq) mv_X11_88 rfl ⟨Nat.le_of_ble_eq_true rfl, Nat.le_of_ble_eq_true rfl⟩ rfl rfl (Nat.le_of_ble_eq_true rfl) dX11_isSign_1 (fun H locs hW hS => ?_)
  clear hq
  refine lv_aload_n hx hb dX11_isSign_4 rfl (lv_at hl 0 rfl) ?_
  refine z_geti C0 hW fl_X11_79 rfl rfl dX11_isSign_5 ?_
  refine lv_aload_n hx hb dX11_isSign_8 rfl (lv_at hl 0 rfl) ?_
  refine z_geti C0 hW fl_X11_82 rfl rfl dX11_isSign_9 ?_
  refine lv_icmp_ge (tgt := 31) hx hb dX11_isSign_12 (by decide) (fun hc => ?_) (fun hc => ?_)
  · replace h := z_t h hc
    clear hc
    refine lv_iconst (v := (0 : Int32)) hx hb dX11_isSign_31 (by decide) ?_
    cases h
    exact z_zret (x := false) C0 hr hlk hW hS dX11_isSign_32
  · replace h := z_f h hc
    clear hc
    refine lv_aload_n hx hb dX11_isSign_15 rfl (lv_at hl 0 rfl) ?_
    refine lv_aload_n hx hb dX11_isSign_16 rfl (lv_at hl 0 rfl) ?_
    refine z_geti C0 hW fl_X11_79 rfl rfl dX11_isSign_17 ?_
    replace h := z_bd h
    obtain ⟨r2, hq, h⟩ := h
    refine z_cvi (As := [.int (u1 0 11)]) C0 hml hl.1 hW hS (c_X11_letter l D A b (u1 0 11) u1 hq) mv_X11_85 rfl ⟨Nat.le_of_ble_eq_true rfl, Nat.le_of_ble_eq_true rfl⟩ rfl rfl (Nat.le_of_ble_eq_true rfl) dX11_isSign_20 (fun H locs hW hS => ?_)
    clear hq
    refine lv_iload_n hx hb dX11_isSign_23 rfl (lv_at hl 1 rfl) ?_
    refine lv_icmp_ne (tgt := 31) hx hb dX11_isSign_24 (by decide) (fun hc => ?_) (fun hc => ?_)
    · replace h := z_f h hc
      clear hc
      refine lv_iconst (v := (0 : Int32)) hx hb dX11_isSign_31 (by decide) ?_
      cases h
      exact z_zret (x := false) C0 hr hlk hW hS dX11_isSign_32
    · replace h := z_t h hc
      clear hc
      refine lv_iconst (v := (1 : Int32)) hx hb dX11_isSign_27 (by decide) ?_
      refine lv_goto (tgt := 32) hx hb dX11_isSign_28 (by decide) ?_
      cases h
      exact z_zret (x := true) C0 hr hlk hW hS dX11_isSign_32
def f_X11_has_55 (a1 : Nat) : Nat → Int32 → Int32 → zU → Option (Bool × zU)
  | 0, _, _, _ => none
  | n + 1, x2, x3, u =>
    if (nI (sLen.getD a1 0)) ≤ x3 then (z_let (z_up u 0 11 x2) (fun u3 => some (true, u3))) else ((f_X11_letter ((u 0 11) + x3) u).bind (fun r4 => if z_in x3 (sLen.getD a1 0) = true then (if r4 = (sCh a1 (x3).toNatClampNeg) then (f_X11_has_55 a1 n x2 (x3 + (1 : Int32)) u) else (some (false, u))) else none))
theorem f_X11_has_55_s (a1 : Nat) (n : Nat) (x2 : Int32) (x3 : Int32) (u : zU) : f_X11_has_55 a1 (n + 1) x2 x3 u = if (nI (sLen.getD a1 0)) ≤ x3 then (z_let (z_up u 0 11 x2) (fun u3 => some (true, u3))) else ((f_X11_letter ((u 0 11) + x3) u).bind (fun r4 => if z_in x3 (sLen.getD a1 0) = true then (if r4 = (sCh a1 (x3).toNatClampNeg) then (f_X11_has_55 a1 n x2 (x3 + (1 : Int32)) u) else (some (false, u))) else none)) := rfl
def f_X11_has_9 (a1 : Nat) : Nat → Int32 → zU → Option (Bool × zU)
  | 0, _, _ => none
  | n + 1, x2, u =>
    if (u 0 10) ≤ x2 then (if (x2 - (u 0 11)) = (nI (sLen.getD a1 0)) then (f_X11_has_55 a1 5000 x2 (0 : Int32) u) else (some (false, u))) else ((f_X11_letter x2 u).bind (fun r5 => z_let (f_X11_isIn r5 (97 : Int32) (122 : Int32) u) (fun t6 => if t6 = true then (f_X11_has_9 a1 n (x2 + (1 : Int32)) u) else (if (x2 - (u 0 11)) = (nI (sLen.getD a1 0)) then (f_X11_has_55 a1 5000 x2 (0 : Int32) u) else (some (false, u))))))
theorem f_X11_has_9_s (a1 : Nat) (n : Nat) (x2 : Int32) (u : zU) : f_X11_has_9 a1 (n + 1) x2 u = if (u 0 10) ≤ x2 then (if (x2 - (u 0 11)) = (nI (sLen.getD a1 0)) then (f_X11_has_55 a1 5000 x2 (0 : Int32) u) else (some (false, u))) else ((f_X11_letter x2 u).bind (fun r5 => z_let (f_X11_isIn r5 (97 : Int32) (122 : Int32) u) (fun t6 => if t6 = true then (f_X11_has_9 a1 n (x2 + (1 : Int32)) u) else (if (x2 - (u 0 11)) = (nI (sLen.getD a1 0)) then (f_X11_has_55 a1 5000 x2 (0 : Int32) u) else (some (false, u)))))) := rfl
def f_X11_has (a1 : Nat) (u : zU) : Option (Bool × zU) :=
  (f_X11_skip u).bind (fun u1 => z_let (u1 0 11) (fun z2 => f_X11_has_9 a1 5000 z2 u1))
set_option maxRecDepth 100000 in
set_option maxHeartbeats 4000000 in
theorem l_X11_has_55 {l : Launch} {D : zD} {A : Nat → Prop} {b : Nat} {p : Program} {e : Env} {s : State} {m : MethodId} {args : Array Value} {below : List Frame} {meth : Method} {c : Code} {v : Bool} {u' : zU} (C0 : z_C p c cX11_has s m args yX11_has.cls D A) (hr : meth.sig.returnType = (some .boolean)) (hml : c.maxLocals = 4) (hlk : meth.locks = false) {a1 : Nat} (hs_a1 : a1 < sN) : ∀ (n : Nat) (x2 : Int32) (x3 : Int32) (u : zU) (H : Heap) (locs : List Loc) (ls : Array Slot), f_X11_has_55 a1 n x2 x3 u = some (v, u') → z_W D A b gM u H → va_S A s.heap H locs → lv_has ls 4 [(0, .ref (b + 0)), (1, .ref (sA D a1)), (2, .int x2), (3, .int x3)] → W p l e { frames := 4, cells := 0, slots := 0, locals := 85 } s m args below meth c H locs 0 0 (z_End D A b gM below args s (some (.int (bI v))) u') (F0 m 55 ls []) := by
  have hx := C0.1
  have hb := C0.2.1
  intro n
  induction n with
  | zero => intro x2 x3 u H locs ls h hW hS hl; cases h
  | succ n ih =>
    intro x2 x3 u H locs ls h hW hS hl
    rw [f_X11_has_55_s] at h
    refine lv_iload_n hx hb dX11_has_55 rfl (lv_at hl 3 rfl) ?_
    refine lv_aload_n hx hb dX11_has_56 rfl (lv_at hl 1 rfl) ?_
    refine z_cji (As := []) C0 hml hl.1 hW hS hs_a1 (c_J0_length l D A b gM u hs_a1) mj_X11_91 ⟨Nat.le_of_ble_eq_true rfl, Nat.le_of_ble_eq_true rfl⟩ rfl rfl (Nat.le_of_ble_eq_true rfl) dX11_has_57 (fun H locs hW hS => ?_)
    refine lv_icmp_ge (tgt := 89) hx hb dX11_has_60 (by decide) (fun hc => ?_) (fun hc => ?_)
    · replace h := z_t h hc
      clear hc
      refine lv_aload_n hx hb dX11_has_89 rfl (lv_at hl 0 rfl) ?_
      refine lv_iload_n hx hb dX11_has_90 rfl (lv_at hl 2 rfl) ?_
      refine z_puti C0 hW hS fl_X11_79 rfl rfl rfl rfl dX11_has_91 (fun H locs u3 e1 hW hS => ?_)
      replace h := z_ly h e1
      clear e1
      refine lv_iconst (v := (1 : Int32)) hx hb dX11_has_94 (by decide) ?_
      cases h
      exact z_zret (x := true) C0 hr hlk hW hS dX11_has_95
    · replace h := z_f h hc
      clear hc
      refine lv_aload_n hx hb dX11_has_63 rfl (lv_at hl 0 rfl) ?_
      refine lv_aload_n hx hb dX11_has_64 rfl (lv_at hl 0 rfl) ?_
      refine z_geti C0 hW fl_X11_79 rfl rfl dX11_has_65 ?_
      refine lv_iload_n hx hb dX11_has_68 rfl (lv_at hl 3 rfl) ?_
      refine lv_iadd hx hb dX11_has_69 ?_
      replace h := z_bd h
      obtain ⟨r4, hq, h⟩ := h
      refine z_cvi (As := [.int ((u 0 11) + x3)]) C0 hml hl.1 hW hS (c_X11_letter l D A b ((u 0 11) + x3) u hq) mv_X11_85 rfl ⟨Nat.le_of_ble_eq_true rfl, Nat.le_of_ble_eq_true rfl⟩ rfl rfl (Nat.le_of_ble_eq_true rfl) dX11_has_70 (fun H locs hW hS => ?_)
      clear hq
      refine lv_aload_n hx hb dX11_has_73 rfl (lv_at hl 1 rfl) ?_
      refine lv_iload_n hx hb dX11_has_74 rfl (lv_at hl 3 rfl) ?_
      replace h := z_if h
      obtain ⟨hin, h⟩ := h
      refine z_cji (As := [.int x3]) C0 hml hl.1 hW hS hs_a1 (c_J0_charAt l D A b gM u hs_a1 hin (z_sl _ hs_a1)) mj_X11_97 ⟨Nat.le_of_ble_eq_true rfl, Nat.le_of_ble_eq_true rfl⟩ rfl rfl (Nat.le_of_ble_eq_true rfl) dX11_has_75 (fun H locs hW hS => ?_)
      clear hin
      refine lv_icmp_eq (tgt := 83) hx hb dX11_has_78 (by decide) (fun hc => ?_) (fun hc => ?_)
      · replace h := z_t h hc
        clear hc
        refine lv_iinc (v := x3 + (1 : Int32)) (lv' := [(3, .int (x3 + (1 : Int32))), (0, .ref (b + 0)), (1, .ref (sA D a1)), (2, .int x2)]) hx hb dX11_has_83 hl (k := 3) rfl rfl (by decide) rfl (fun ls hl => ?_)
        refine lv_goto (tgt := 55) hx hb dX11_has_86 (by decide) ?_
        exact ih _ _ _ _ _ _ h hW hS (lv_sub hl [1, 2, 3, 0] rfl)
      · replace h := z_f h hc
        clear hc
        refine lv_iconst (v := (0 : Int32)) hx hb dX11_has_81 (by decide) ?_
        cases h
        exact z_zret (x := false) C0 hr hlk hW hS dX11_has_82
set_option maxRecDepth 100000 in
set_option maxHeartbeats 4000000 in
theorem l_X11_has_9 {l : Launch} {D : zD} {A : Nat → Prop} {b : Nat} {p : Program} {e : Env} {s : State} {m : MethodId} {args : Array Value} {below : List Frame} {meth : Method} {c : Code} {v : Bool} {u' : zU} (C0 : z_C p c cX11_has s m args yX11_has.cls D A) (hr : meth.sig.returnType = (some .boolean)) (hml : c.maxLocals = 4) (hlk : meth.locks = false) {a1 : Nat} (hs_a1 : a1 < sN) : ∀ (n : Nat) (x2 : Int32) (u : zU) (H : Heap) (locs : List Loc) (ls : Array Slot), f_X11_has_9 a1 n x2 u = some (v, u') → z_W D A b gM u H → va_S A s.heap H locs → lv_has ls 4 [(0, .ref (b + 0)), (1, .ref (sA D a1)), (2, .int x2)] → W p l e { frames := 4, cells := 0, slots := 0, locals := 85 } s m args below meth c H locs 0 0 (z_End D A b gM below args s (some (.int (bI v))) u') (F0 m 9 ls []) := by
  have hx := C0.1
  have hb := C0.2.1
  intro n
  induction n with
  | zero => intro x2 u H locs ls h hW hS hl; cases h
  | succ n ih =>
    intro x2 u H locs ls h hW hS hl
    rw [f_X11_has_9_s] at h
    refine lv_iload_n hx hb dX11_has_9 rfl (lv_at hl 2 rfl) ?_
    refine lv_aload_n hx hb dX11_has_10 rfl (lv_at hl 0 rfl) ?_
    refine z_geti C0 hW fl_X11_82 rfl rfl dX11_has_11 ?_
    refine lv_icmp_ge (tgt := 38) hx hb dX11_has_14 (by decide) (fun hc => ?_) (fun hc => ?_)
    · replace h := z_t h hc
      clear hc
      refine lv_iload_n hx hb dX11_has_38 rfl (lv_at hl 2 rfl) ?_
      refine lv_aload_n hx hb dX11_has_39 rfl (lv_at hl 0 rfl) ?_
      refine z_geti C0 hW fl_X11_79 rfl rfl dX11_has_40 ?_
      refine lv_isub hx hb dX11_has_43 ?_
      refine lv_aload_n hx hb dX11_has_44 rfl (lv_at hl 1 rfl) ?_
      refine z_cji (As := []) C0 hml hl.1 hW hS hs_a1 (c_J0_length l D A b gM u hs_a1) mj_X11_91 ⟨Nat.le_of_ble_eq_true rfl, Nat.le_of_ble_eq_true rfl⟩ rfl rfl (Nat.le_of_ble_eq_true rfl) dX11_has_45 (fun H locs hW hS => ?_)
      refine lv_icmp_eq (tgt := 53) hx hb dX11_has_48 (by decide) (fun hc => ?_) (fun hc => ?_)
      · replace h := z_t h hc
        clear hc
        refine lv_iconst (v := (0 : Int32)) hx hb dX11_has_53 (by decide) ?_
        refine lv_istore_n (lv' := [(3, .int (0 : Int32)), (0, .ref (b + 0)), (1, .ref (sA D a1)), (2, .int x2)]) hx hb dX11_has_54 rfl hl (by decide) rfl (fun ls hl => ?_)
        exact l_X11_has_55 C0 hr hml hlk hs_a1 5000 _ _ _ _ _ _ h hW hS (lv_sub hl [1, 2, 3, 0] rfl)
      · replace h := z_f h hc
        clear hc
        refine lv_iconst (v := (0 : Int32)) hx hb dX11_has_51 (by decide) ?_
        cases h
        exact z_zret (x := false) C0 hr hlk hW hS dX11_has_52
    · replace h := z_f h hc
      clear hc
      refine lv_aload_n hx hb dX11_has_17 rfl (lv_at hl 0 rfl) ?_
      refine lv_iload_n hx hb dX11_has_18 rfl (lv_at hl 2 rfl) ?_
      replace h := z_bd h
      obtain ⟨r5, hq, h⟩ := h
      refine z_cvi (As := [.int x2]) C0 hml hl.1 hW hS (c_X11_letter l D A b x2 u hq) mv_X11_85 rfl ⟨Nat.le_of_ble_eq_true rfl, Nat.le_of_ble_eq_true rfl⟩ rfl rfl (Nat.le_of_ble_eq_true rfl) dX11_has_19 (fun H locs hW hS => ?_)
      clear hq
      refine lv_bipush (v := (97 : Int32)) hx hb dX11_has_22 (by decide) ?_
      refine lv_bipush (v := (122 : Int32)) hx hb dX11_has_24 (by decide) ?_
      obtain ⟨t6, hq⟩ : ∃ y, f_X11_isIn r5 (97 : Int32) (122 : Int32) u = y := ⟨_, rfl⟩
      replace h := z_lz h hq
      refine z_csi (As := [.int r5, .int (97 : Int32), .int (122 : Int32)]) C0 hml hl.1 hW hS (c_X11_isIn l D A b r5 (97 : Int32) (122 : Int32) u hq) ms_X11_45 ⟨Nat.le_of_ble_eq_true rfl, Nat.le_of_ble_eq_true rfl⟩ rfl rfl (Nat.le_of_ble_eq_true rfl) dX11_has_26 (fun H locs hW hS => ?_)
      clear hq
      refine z_ifeqZ C0 (tgt := 38) dX11_has_29 (by decide) (fun hc => ?_) (fun hc => ?_)
      · replace h := z_ff h hc
        clear hc
        refine lv_iload_n hx hb dX11_has_38 rfl (lv_at hl 2 rfl) ?_
        refine lv_aload_n hx hb dX11_has_39 rfl (lv_at hl 0 rfl) ?_
        refine z_geti C0 hW fl_X11_79 rfl rfl dX11_has_40 ?_
        refine lv_isub hx hb dX11_has_43 ?_
        refine lv_aload_n hx hb dX11_has_44 rfl (lv_at hl 1 rfl) ?_
        refine z_cji (As := []) C0 hml hl.1 hW hS hs_a1 (c_J0_length l D A b gM u hs_a1) mj_X11_91 ⟨Nat.le_of_ble_eq_true rfl, Nat.le_of_ble_eq_true rfl⟩ rfl rfl (Nat.le_of_ble_eq_true rfl) dX11_has_45 (fun H locs hW hS => ?_)
        refine lv_icmp_eq (tgt := 53) hx hb dX11_has_48 (by decide) (fun hc => ?_) (fun hc => ?_)
        · replace h := z_t h hc
          clear hc
          refine lv_iconst (v := (0 : Int32)) hx hb dX11_has_53 (by decide) ?_
          refine lv_istore_n (lv' := [(3, .int (0 : Int32)), (0, .ref (b + 0)), (1, .ref (sA D a1)), (2, .int x2)]) hx hb dX11_has_54 rfl hl (by decide) rfl (fun ls hl => ?_)
          exact l_X11_has_55 C0 hr hml hlk hs_a1 5000 _ _ _ _ _ _ h hW hS (lv_sub hl [1, 2, 3, 0] rfl)
        · replace h := z_f h hc
          clear hc
          refine lv_iconst (v := (0 : Int32)) hx hb dX11_has_51 (by decide) ?_
          cases h
          exact z_zret (x := false) C0 hr hlk hW hS dX11_has_52
      · replace h := z_t h hc
        clear hc
        refine lv_iinc (v := x2 + (1 : Int32)) (lv' := [(2, .int (x2 + (1 : Int32))), (0, .ref (b + 0)), (1, .ref (sA D a1))]) hx hb dX11_has_32 hl (k := 2) rfl rfl (by decide) rfl (fun ls hl => ?_)
        refine lv_goto (tgt := 9) hx hb dX11_has_35 (by decide) ?_
        exact ih _ _ _ _ _ h hW hS (lv_sub hl [1, 2, 0] rfl)
theorem f_X11_has_e (a1 : Nat) (u : zU) : f_X11_has a1 u = (f_X11_skip u).bind (fun u1 => z_let (u1 0 11) (fun z2 => f_X11_has_9 a1 5000 z2 u1)) := rfl
set_option maxRecDepth 100000 in
set_option maxHeartbeats 4000000 in
theorem c_X11_has (l : Launch) (D : zD) (A : Nat → Prop) (b : Nat) (a1 : Nat) (hs_a1 : a1 < sN) (u : zU) {v : Bool} {u' : zU} (h : f_X11_has a1 u = some (v, u')) : z_M l D A b gM yX11_has cX11_has 4 (some .boolean) 4 85 [.ref (b + 0), .ref (sA D a1)] u (some (.int (bI v))) u' := by
  refine z_enter (by decide) (Nat.le_of_ble_eq_true rfl) ?_
  intro p e s m below meth c ls C0 hr hml hlk hW hS hl
  have hl : lv_has ls 4 [(0, .ref (b + 0)), (1, .ref (sA D a1))] := hl
  have hx := C0.1
  have hb := C0.2.1
  rw [f_X11_has_e] at h
  refine lv_aload_n hx hb dX11_has_0 rfl (lv_at hl 0 rfl) ?_
  replace h := z_bd h
  obtain ⟨u1, hq, h⟩ := h
  refine z_cvv (As := []) C0 hml hl.1 hW hS (c_X11_skip l D A b u hq) mv_X11_88 rfl ⟨Nat.le_of_ble_eq_true rfl, Nat.le_of_ble_eq_true rfl⟩ rfl rfl (Nat.le_of_ble_eq_true rfl) dX11_has_1 (fun H locs hW hS => ?_)
  clear hq
  refine lv_aload_n hx hb dX11_has_4 rfl (lv_at hl 0 rfl) ?_
  refine z_geti C0 hW fl_X11_79 rfl rfl dX11_has_5 ?_
  refine lv_topi (fun z2 e1 => ?_)
  replace h := z_ly h e1
  clear e1
  refine lv_istore_n (lv' := [(2, .int z2), (0, .ref (b + 0)), (1, .ref (sA D a1))]) hx hb dX11_has_8 rfl hl (by decide) rfl (fun ls hl => ?_)
  exact l_X11_has_9 C0 hr hml hlk hs_a1 5000 _ _ _ _ _ h hW hS (lv_sub hl [1, 2, 0] rfl)
def f_X11_wrong (a1 : Int32) (u : zU) : zU :=
  if (u 0 12) = (-1 : Int32) then (z_let (z_up u 0 12 a1) (fun u1 => u1)) else (u)
theorem f_X11_wrong_e (a1 : Int32) (u : zU) : f_X11_wrong a1 u = if (u 0 12) = (-1 : Int32) then (z_let (z_up u 0 12 a1) (fun u1 => u1)) else (u) := rfl
set_option maxRecDepth 100000 in
set_option maxHeartbeats 4000000 in
theorem c_X11_wrong (l : Launch) (D : zD) (A : Nat → Prop) (b : Nat) (a1 : Int32) (u : zU) {u' : zU} (h : f_X11_wrong a1 u = u') : z_M l D A b gM yX11_wrong cX11_wrong 2 none 0 0 [.ref (b + 0), .int a1] u none u' := by
  refine z_enter (by decide) (Nat.le_of_ble_eq_true rfl) ?_
  intro p e s m below meth c ls C0 hr hml hlk hW hS hl
  have hl : lv_has ls 2 [(0, .ref (b + 0)), (1, .int a1)] := hl
  have hx := C0.1
  have hb := C0.2.1
  rw [f_X11_wrong_e] at h
  refine lv_aload_n hx hb dX11_wrong_0 rfl (lv_at hl 0 rfl) ?_
  refine z_geti C0 hW fl_X11_25 rfl rfl dX11_wrong_1 ?_
  refine lv_iconst (v := (-1 : Int32)) hx hb dX11_wrong_4 (by decide) ?_
  refine lv_icmp_ne (tgt := 13) hx hb dX11_wrong_5 (by decide) (fun hc => ?_) (fun hc => ?_)
  · replace h := z_f h hc
    clear hc
    cases h
    exact z_vret C0 hr hlk hW hS dX11_wrong_13
  · replace h := z_t h hc
    clear hc
    refine lv_aload_n hx hb dX11_wrong_8 rfl (lv_at hl 0 rfl) ?_
    refine lv_iload_n hx hb dX11_wrong_9 rfl (lv_at hl 1 rfl) ?_
    refine z_puti C0 hW hS fl_X11_25 rfl rfl rfl rfl dX11_wrong_10 (fun H locs u1 e1 hW hS => ?_)
    replace h := z_ly h e1
    clear e1
    cases h
    exact z_vret C0 hr hlk hW hS dX11_wrong_13
def f_X11_place  (u : zU) : Option (Int32 × zU) :=
  (f_X11_skip u).bind (fun u1 => some (u1 0 11, u1))
theorem f_X11_place_e  (u : zU) : f_X11_place u = (f_X11_skip u).bind (fun u1 => some (u1 0 11, u1)) := rfl
set_option maxRecDepth 100000 in
set_option maxHeartbeats 4000000 in
theorem c_X11_place (l : Launch) (D : zD) (A : Nat → Prop) (b : Nat)  (u : zU) {v : Int32} {u' : zU} (h : f_X11_place u = some (v, u')) : z_M l D A b gM yX11_place cX11_place 1 (some .int) 2 41 [.ref (b + 0)] u (some (.int v)) u' := by
  refine z_enter (by decide) (Nat.le_of_ble_eq_true rfl) ?_
  intro p e s m below meth c ls C0 hr hml hlk hW hS hl
  have hl : lv_has ls 1 [(0, .ref (b + 0))] := hl
  have hx := C0.1
  have hb := C0.2.1
  rw [f_X11_place_e] at h
  refine lv_aload_n hx hb dX11_place_0 rfl (lv_at hl 0 rfl) ?_
  replace h := z_bd h
  obtain ⟨u1, hq, h⟩ := h
  refine z_cvv (As := []) C0 hml hl.1 hW hS (c_X11_skip l D A b u hq) mv_X11_88 rfl ⟨Nat.le_of_ble_eq_true rfl, Nat.le_of_ble_eq_true rfl⟩ rfl rfl (Nat.le_of_ble_eq_true rfl) dX11_place_1 (fun H locs hW hS => ?_)
  clear hq
  refine lv_aload_n hx hb dX11_place_4 rfl (lv_at hl 0 rfl) ?_
  refine z_geti C0 hW fl_X11_79 rfl rfl dX11_place_5 ?_
  cases h
  exact z_iret C0 hr hlk hW hS dX11_place_8
def f_X11_figures_18 : Nat → Int32 → Int32 → Int32 → Int32 → zU → Option (Int32 × zU)
  | 0, _, _, _, _, _ => none
  | n + 1, x1, x2, x3, x4, u =>
    if (u 0 10) ≤ (u 0 11) then (if (u 0 11) = x3 then (z_let (f_X11_wrong x3 u) (fun u3 => some (x4, u3))) else (if (3 : Int32) < ((u 0 11) - x3) then (z_let (f_X11_wrong x3 u) (fun u4 => some (x4, u4))) else (if x4 < x1 then (z_let (f_X11_wrong x3 u) (fun u5 => some (x4, u5))) else (if x4 ≤ x2 then (some (x4, u)) else (z_let (f_X11_wrong x3 u) (fun u6 => some (x4, u6))))))) else ((f_X11_letter (u 0 11) u).bind (fun r7 => z_let (f_X11_isIn r7 (48 : Int32) (57 : Int32) u) (fun t8 => if t8 = true then (if (3 : Int32) < ((u 0 11) - x3) then (if (u 0 11) = x3 then (z_let (f_X11_wrong x3 u) (fun u13 => some (x4, u13))) else (if (3 : Int32) < ((u 0 11) - x3) then (z_let (f_X11_wrong x3 u) (fun u14 => some (x4, u14))) else (if x4 < x1 then (z_let (f_X11_wrong x3 u) (fun u15 => some (x4, u15))) else (if x4 ≤ x2 then (some (x4, u)) else (z_let (f_X11_wrong x3 u) (fun u16 => some (x4, u16))))))) else ((f_X11_letter (u 0 11) u).bind (fun r17 => z_let ((((10 : Int32) * x4) + r17) - (48 : Int32)) (fun z18 => z_let (z_up u 0 11 ((u 0 11) + (1 : Int32))) (fun u19 => f_X11_figures_18 n x1 x2 x3 z18 u19))))) else (if (u 0 11) = x3 then (z_let (f_X11_wrong x3 u) (fun u9 => some (x4, u9))) else (if (3 : Int32) < ((u 0 11) - x3) then (z_let (f_X11_wrong x3 u) (fun u10 => some (x4, u10))) else (if x4 < x1 then (z_let (f_X11_wrong x3 u) (fun u11 => some (x4, u11))) else (if x4 ≤ x2 then (some (x4, u)) else (z_let (f_X11_wrong x3 u) (fun u12 => some (x4, u12))))))))))
theorem f_X11_figures_18_s (n : Nat) (x1 : Int32) (x2 : Int32) (x3 : Int32) (x4 : Int32) (u : zU) : f_X11_figures_18 (n + 1) x1 x2 x3 x4 u = if (u 0 10) ≤ (u 0 11) then (if (u 0 11) = x3 then (z_let (f_X11_wrong x3 u) (fun u3 => some (x4, u3))) else (if (3 : Int32) < ((u 0 11) - x3) then (z_let (f_X11_wrong x3 u) (fun u4 => some (x4, u4))) else (if x4 < x1 then (z_let (f_X11_wrong x3 u) (fun u5 => some (x4, u5))) else (if x4 ≤ x2 then (some (x4, u)) else (z_let (f_X11_wrong x3 u) (fun u6 => some (x4, u6))))))) else ((f_X11_letter (u 0 11) u).bind (fun r7 => z_let (f_X11_isIn r7 (48 : Int32) (57 : Int32) u) (fun t8 => if t8 = true then (if (3 : Int32) < ((u 0 11) - x3) then (if (u 0 11) = x3 then (z_let (f_X11_wrong x3 u) (fun u13 => some (x4, u13))) else (if (3 : Int32) < ((u 0 11) - x3) then (z_let (f_X11_wrong x3 u) (fun u14 => some (x4, u14))) else (if x4 < x1 then (z_let (f_X11_wrong x3 u) (fun u15 => some (x4, u15))) else (if x4 ≤ x2 then (some (x4, u)) else (z_let (f_X11_wrong x3 u) (fun u16 => some (x4, u16))))))) else ((f_X11_letter (u 0 11) u).bind (fun r17 => z_let ((((10 : Int32) * x4) + r17) - (48 : Int32)) (fun z18 => z_let (z_up u 0 11 ((u 0 11) + (1 : Int32))) (fun u19 => f_X11_figures_18 n x1 x2 x3 z18 u19))))) else (if (u 0 11) = x3 then (z_let (f_X11_wrong x3 u) (fun u9 => some (x4, u9))) else (if (3 : Int32) < ((u 0 11) - x3) then (z_let (f_X11_wrong x3 u) (fun u10 => some (x4, u10))) else (if x4 < x1 then (z_let (f_X11_wrong x3 u) (fun u11 => some (x4, u11))) else (if x4 ≤ x2 then (some (x4, u)) else (z_let (f_X11_wrong x3 u) (fun u12 => some (x4, u12)))))))))) := rfl
def f_X11_figures (a1 : Int32) (a2 : Int32) (u : zU) : Option (Int32 × zU) :=
  if (u 0 12) = (-1 : Int32) then (z_b2 (f_X11_place u) (fun r1 u2 => f_X11_figures_18 5000 a1 a2 r1 (0 : Int32) u2)) else (some ((0 : Int32), u))
set_option maxRecDepth 100000 in
set_option maxHeartbeats 4000000 in
theorem l_X11_figures_18 {l : Launch} {D : zD} {A : Nat → Prop} {b : Nat} {p : Program} {e : Env} {s : State} {m : MethodId} {args : Array Value} {below : List Frame} {meth : Method} {c : Code} {v : Int32} {u' : zU} (C0 : z_C p c cX11_figures s m args yX11_figures.cls D A) (hr : meth.sig.returnType = (some .int)) (hml : c.maxLocals = 5) (hlk : meth.locks = false) : ∀ (n : Nat) (x1 : Int32) (x2 : Int32) (x3 : Int32) (x4 : Int32) (u : zU) (H : Heap) (locs : List Loc) (ls : Array Slot), f_X11_figures_18 n x1 x2 x3 x4 u = some (v, u') → z_W D A b gM u H → va_S A s.heap H locs → lv_has ls 5 [(0, .ref (b + 0)), (1, .int x1), (2, .int x2), (3, .int x3), (4, .int x4)] → W p l e { frames := 3, cells := 0, slots := 0, locals := 61 } s m args below meth c H locs 0 0 (z_End D A b gM below args s (some (.int v)) u') (F0 m 18 ls []) := by
  have hx := C0.1
  have hb := C0.2.1
  intro n
  induction n with
  | zero => intro x1 x2 x3 x4 u H locs ls h hW hS hl; cases h
  | succ n ih =>
    intro x1 x2 x3 x4 u H locs ls h hW hS hl
    rw [f_X11_figures_18_s] at h
    refine lv_aload_n hx hb dX11_figures_18 rfl (lv_at hl 0 rfl) ?_
    refine z_geti C0 hW fl_X11_79 rfl rfl dX11_figures_19 ?_
    refine lv_aload_n hx hb dX11_figures_22 rfl (lv_at hl 0 rfl) ?_
    refine z_geti C0 hW fl_X11_82 rfl rfl dX11_figures_23 ?_
    refine lv_icmp_ge (tgt := 89) hx hb dX11_figures_26 (by decide) (fun hc => ?_) (fun hc => ?_)
    · replace h := z_t h hc
      clear hc
      refine lv_aload_n hx hb dX11_figures_89 rfl (lv_at hl 0 rfl) ?_
      refine z_geti C0 hW fl_X11_79 rfl rfl dX11_figures_90 ?_
      refine lv_iload_n hx hb dX11_figures_93 rfl (lv_at hl 3 rfl) ?_
      refine lv_icmp_eq (tgt := 119) hx hb dX11_figures_94 (by decide) (fun hc => ?_) (fun hc => ?_)
      · replace h := z_t h hc
        clear hc
        refine lv_aload_n hx hb dX11_figures_119 rfl (lv_at hl 0 rfl) ?_
        refine lv_iload_n hx hb dX11_figures_120 rfl (lv_at hl 3 rfl) ?_
        obtain ⟨u3, hq⟩ : ∃ y, f_X11_wrong x3 u = y := ⟨_, rfl⟩
        replace h := z_lz h hq
        refine z_cvv (As := [.int x3]) C0 hml hl.1 hW hS (c_X11_wrong l D A b x3 u hq) mv_X11_104 rfl ⟨Nat.le_of_ble_eq_true rfl, Nat.le_of_ble_eq_true rfl⟩ rfl rfl (Nat.le_of_ble_eq_true rfl) dX11_figures_121 (fun H locs hW hS => ?_)
        clear hq
        refine lv_iload hx hb dX11_figures_124 (lv_at hl 4 rfl) ?_
        cases h
        exact z_iret C0 hr hlk hW hS dX11_figures_126
      · replace h := z_f h hc
        clear hc
        refine lv_aload_n hx hb dX11_figures_97 rfl (lv_at hl 0 rfl) ?_
        refine z_geti C0 hW fl_X11_79 rfl rfl dX11_figures_98 ?_
        refine lv_iload_n hx hb dX11_figures_101 rfl (lv_at hl 3 rfl) ?_
        refine lv_isub hx hb dX11_figures_102 ?_
        refine lv_iconst (v := (3 : Int32)) hx hb dX11_figures_103 (by decide) ?_
        refine lv_icmp_gt (tgt := 119) hx hb dX11_figures_104 (by decide) (fun hc => ?_) (fun hc => ?_)
        · replace h := z_t h hc
          clear hc
          refine lv_aload_n hx hb dX11_figures_119 rfl (lv_at hl 0 rfl) ?_
          refine lv_iload_n hx hb dX11_figures_120 rfl (lv_at hl 3 rfl) ?_
          obtain ⟨u4, hq⟩ : ∃ y, f_X11_wrong x3 u = y := ⟨_, rfl⟩
          replace h := z_lz h hq
          refine z_cvv (As := [.int x3]) C0 hml hl.1 hW hS (c_X11_wrong l D A b x3 u hq) mv_X11_104 rfl ⟨Nat.le_of_ble_eq_true rfl, Nat.le_of_ble_eq_true rfl⟩ rfl rfl (Nat.le_of_ble_eq_true rfl) dX11_figures_121 (fun H locs hW hS => ?_)
          clear hq
          refine lv_iload hx hb dX11_figures_124 (lv_at hl 4 rfl) ?_
          cases h
          exact z_iret C0 hr hlk hW hS dX11_figures_126
        · replace h := z_f h hc
          clear hc
          refine lv_iload hx hb dX11_figures_107 (lv_at hl 4 rfl) ?_
          refine lv_iload_n hx hb dX11_figures_109 rfl (lv_at hl 1 rfl) ?_
          refine lv_icmp_lt (tgt := 119) hx hb dX11_figures_110 (by decide) (fun hc => ?_) (fun hc => ?_)
          · replace h := z_t h hc
            clear hc
            refine lv_aload_n hx hb dX11_figures_119 rfl (lv_at hl 0 rfl) ?_
            refine lv_iload_n hx hb dX11_figures_120 rfl (lv_at hl 3 rfl) ?_
            obtain ⟨u5, hq⟩ : ∃ y, f_X11_wrong x3 u = y := ⟨_, rfl⟩
            replace h := z_lz h hq
            refine z_cvv (As := [.int x3]) C0 hml hl.1 hW hS (c_X11_wrong l D A b x3 u hq) mv_X11_104 rfl ⟨Nat.le_of_ble_eq_true rfl, Nat.le_of_ble_eq_true rfl⟩ rfl rfl (Nat.le_of_ble_eq_true rfl) dX11_figures_121 (fun H locs hW hS => ?_)
            clear hq
            refine lv_iload hx hb dX11_figures_124 (lv_at hl 4 rfl) ?_
            cases h
            exact z_iret C0 hr hlk hW hS dX11_figures_126
          · replace h := z_f h hc
            clear hc
            refine lv_iload hx hb dX11_figures_113 (lv_at hl 4 rfl) ?_
            refine lv_iload_n hx hb dX11_figures_115 rfl (lv_at hl 2 rfl) ?_
            refine lv_icmp_le (tgt := 124) hx hb dX11_figures_116 (by decide) (fun hc => ?_) (fun hc => ?_)
            · replace h := z_t h hc
              clear hc
              refine lv_iload hx hb dX11_figures_124 (lv_at hl 4 rfl) ?_
              cases h
              exact z_iret C0 hr hlk hW hS dX11_figures_126
            · replace h := z_f h hc
              clear hc
              refine lv_aload_n hx hb dX11_figures_119 rfl (lv_at hl 0 rfl) ?_
              refine lv_iload_n hx hb dX11_figures_120 rfl (lv_at hl 3 rfl) ?_
              obtain ⟨u6, hq⟩ : ∃ y, f_X11_wrong x3 u = y := ⟨_, rfl⟩
              replace h := z_lz h hq
              refine z_cvv (As := [.int x3]) C0 hml hl.1 hW hS (c_X11_wrong l D A b x3 u hq) mv_X11_104 rfl ⟨Nat.le_of_ble_eq_true rfl, Nat.le_of_ble_eq_true rfl⟩ rfl rfl (Nat.le_of_ble_eq_true rfl) dX11_figures_121 (fun H locs hW hS => ?_)
              clear hq
              refine lv_iload hx hb dX11_figures_124 (lv_at hl 4 rfl) ?_
              cases h
              exact z_iret C0 hr hlk hW hS dX11_figures_126
    · replace h := z_f h hc
      clear hc
      refine lv_aload_n hx hb dX11_figures_29 rfl (lv_at hl 0 rfl) ?_
      refine lv_aload_n hx hb dX11_figures_30 rfl (lv_at hl 0 rfl) ?_
      refine z_geti C0 hW fl_X11_79 rfl rfl dX11_figures_31 ?_
      replace h := z_bd h
      obtain ⟨r7, hq, h⟩ := h
      refine z_cvi (As := [.int (u 0 11)]) C0 hml hl.1 hW hS (c_X11_letter l D A b (u 0 11) u hq) mv_X11_85 rfl ⟨Nat.le_of_ble_eq_true rfl, Nat.le_of_ble_eq_true rfl⟩ rfl rfl (Nat.le_of_ble_eq_true rfl) dX11_figures_34 (fun H locs hW hS => ?_)
      clear hq
      refine lv_bipush (v := (48 : Int32)) hx hb dX11_figures_37 (by decide) ?_
      refine lv_bipush (v := (57 : Int32)) hx hb dX11_figures_39 (by decide) ?_
      obtain ⟨t8, hq⟩ : ∃ y, f_X11_isIn r7 (48 : Int32) (57 : Int32) u = y := ⟨_, rfl⟩
      replace h := z_lz h hq
      refine z_csi (As := [.int r7, .int (48 : Int32), .int (57 : Int32)]) C0 hml hl.1 hW hS (c_X11_isIn l D A b r7 (48 : Int32) (57 : Int32) u hq) ms_X11_45 ⟨Nat.le_of_ble_eq_true rfl, Nat.le_of_ble_eq_true rfl⟩ rfl rfl (Nat.le_of_ble_eq_true rfl) dX11_figures_41 (fun H locs hW hS => ?_)
      clear hq
      refine z_ifeqZ C0 (tgt := 89) dX11_figures_44 (by decide) (fun hc => ?_) (fun hc => ?_)
      · replace h := z_ff h hc
        clear hc
        refine lv_aload_n hx hb dX11_figures_89 rfl (lv_at hl 0 rfl) ?_
        refine z_geti C0 hW fl_X11_79 rfl rfl dX11_figures_90 ?_
        refine lv_iload_n hx hb dX11_figures_93 rfl (lv_at hl 3 rfl) ?_
        refine lv_icmp_eq (tgt := 119) hx hb dX11_figures_94 (by decide) (fun hc => ?_) (fun hc => ?_)
        · replace h := z_t h hc
          clear hc
          refine lv_aload_n hx hb dX11_figures_119 rfl (lv_at hl 0 rfl) ?_
          refine lv_iload_n hx hb dX11_figures_120 rfl (lv_at hl 3 rfl) ?_
          obtain ⟨u9, hq⟩ : ∃ y, f_X11_wrong x3 u = y := ⟨_, rfl⟩
          replace h := z_lz h hq
          refine z_cvv (As := [.int x3]) C0 hml hl.1 hW hS (c_X11_wrong l D A b x3 u hq) mv_X11_104 rfl ⟨Nat.le_of_ble_eq_true rfl, Nat.le_of_ble_eq_true rfl⟩ rfl rfl (Nat.le_of_ble_eq_true rfl) dX11_figures_121 (fun H locs hW hS => ?_)
          clear hq
          refine lv_iload hx hb dX11_figures_124 (lv_at hl 4 rfl) ?_
          cases h
          exact z_iret C0 hr hlk hW hS dX11_figures_126
        · replace h := z_f h hc
          clear hc
          refine lv_aload_n hx hb dX11_figures_97 rfl (lv_at hl 0 rfl) ?_
          refine z_geti C0 hW fl_X11_79 rfl rfl dX11_figures_98 ?_
          refine lv_iload_n hx hb dX11_figures_101 rfl (lv_at hl 3 rfl) ?_
          refine lv_isub hx hb dX11_figures_102 ?_
          refine lv_iconst (v := (3 : Int32)) hx hb dX11_figures_103 (by decide) ?_
          refine lv_icmp_gt (tgt := 119) hx hb dX11_figures_104 (by decide) (fun hc => ?_) (fun hc => ?_)
          · replace h := z_t h hc
            clear hc
            refine lv_aload_n hx hb dX11_figures_119 rfl (lv_at hl 0 rfl) ?_
            refine lv_iload_n hx hb dX11_figures_120 rfl (lv_at hl 3 rfl) ?_
            obtain ⟨u10, hq⟩ : ∃ y, f_X11_wrong x3 u = y := ⟨_, rfl⟩
            replace h := z_lz h hq
            refine z_cvv (As := [.int x3]) C0 hml hl.1 hW hS (c_X11_wrong l D A b x3 u hq) mv_X11_104 rfl ⟨Nat.le_of_ble_eq_true rfl, Nat.le_of_ble_eq_true rfl⟩ rfl rfl (Nat.le_of_ble_eq_true rfl) dX11_figures_121 (fun H locs hW hS => ?_)
            clear hq
            refine lv_iload hx hb dX11_figures_124 (lv_at hl 4 rfl) ?_
            cases h
            exact z_iret C0 hr hlk hW hS dX11_figures_126
          · replace h := z_f h hc
            clear hc
            refine lv_iload hx hb dX11_figures_107 (lv_at hl 4 rfl) ?_
            refine lv_iload_n hx hb dX11_figures_109 rfl (lv_at hl 1 rfl) ?_
            refine lv_icmp_lt (tgt := 119) hx hb dX11_figures_110 (by decide) (fun hc => ?_) (fun hc => ?_)
            · replace h := z_t h hc
              clear hc
              refine lv_aload_n hx hb dX11_figures_119 rfl (lv_at hl 0 rfl) ?_
              refine lv_iload_n hx hb dX11_figures_120 rfl (lv_at hl 3 rfl) ?_
              obtain ⟨u11, hq⟩ : ∃ y, f_X11_wrong x3 u = y := ⟨_, rfl⟩
              replace h := z_lz h hq
              refine z_cvv (As := [.int x3]) C0 hml hl.1 hW hS (c_X11_wrong l D A b x3 u hq) mv_X11_104 rfl ⟨Nat.le_of_ble_eq_true rfl, Nat.le_of_ble_eq_true rfl⟩ rfl rfl (Nat.le_of_ble_eq_true rfl) dX11_figures_121 (fun H locs hW hS => ?_)
              clear hq
              refine lv_iload hx hb dX11_figures_124 (lv_at hl 4 rfl) ?_
              cases h
              exact z_iret C0 hr hlk hW hS dX11_figures_126
            · replace h := z_f h hc
              clear hc
              refine lv_iload hx hb dX11_figures_113 (lv_at hl 4 rfl) ?_
              refine lv_iload_n hx hb dX11_figures_115 rfl (lv_at hl 2 rfl) ?_
              refine lv_icmp_le (tgt := 124) hx hb dX11_figures_116 (by decide) (fun hc => ?_) (fun hc => ?_)
              · replace h := z_t h hc
                clear hc
                refine lv_iload hx hb dX11_figures_124 (lv_at hl 4 rfl) ?_
                cases h
                exact z_iret C0 hr hlk hW hS dX11_figures_126
              · replace h := z_f h hc
                clear hc
                refine lv_aload_n hx hb dX11_figures_119 rfl (lv_at hl 0 rfl) ?_
                refine lv_iload_n hx hb dX11_figures_120 rfl (lv_at hl 3 rfl) ?_
                obtain ⟨u12, hq⟩ : ∃ y, f_X11_wrong x3 u = y := ⟨_, rfl⟩
                replace h := z_lz h hq
                refine z_cvv (As := [.int x3]) C0 hml hl.1 hW hS (c_X11_wrong l D A b x3 u hq) mv_X11_104 rfl ⟨Nat.le_of_ble_eq_true rfl, Nat.le_of_ble_eq_true rfl⟩ rfl rfl (Nat.le_of_ble_eq_true rfl) dX11_figures_121 (fun H locs hW hS => ?_)
                clear hq
                refine lv_iload hx hb dX11_figures_124 (lv_at hl 4 rfl) ?_
                cases h
                exact z_iret C0 hr hlk hW hS dX11_figures_126
      · replace h := z_t h hc
        clear hc
        refine lv_aload_n hx hb dX11_figures_47 rfl (lv_at hl 0 rfl) ?_
        refine z_geti C0 hW fl_X11_79 rfl rfl dX11_figures_48 ?_
        refine lv_iload_n hx hb dX11_figures_51 rfl (lv_at hl 3 rfl) ?_
        refine lv_isub hx hb dX11_figures_52 ?_
        refine lv_iconst (v := (3 : Int32)) hx hb dX11_figures_53 (by decide) ?_
        refine lv_icmp_gt (tgt := 89) hx hb dX11_figures_54 (by decide) (fun hc => ?_) (fun hc => ?_)
        · replace h := z_t h hc
          clear hc
          refine lv_aload_n hx hb dX11_figures_89 rfl (lv_at hl 0 rfl) ?_
          refine z_geti C0 hW fl_X11_79 rfl rfl dX11_figures_90 ?_
          refine lv_iload_n hx hb dX11_figures_93 rfl (lv_at hl 3 rfl) ?_
          refine lv_icmp_eq (tgt := 119) hx hb dX11_figures_94 (by decide) (fun hc => ?_) (fun hc => ?_)
          · replace h := z_t h hc
            clear hc
            refine lv_aload_n hx hb dX11_figures_119 rfl (lv_at hl 0 rfl) ?_
            refine lv_iload_n hx hb dX11_figures_120 rfl (lv_at hl 3 rfl) ?_
            obtain ⟨u13, hq⟩ : ∃ y, f_X11_wrong x3 u = y := ⟨_, rfl⟩
            replace h := z_lz h hq
            refine z_cvv (As := [.int x3]) C0 hml hl.1 hW hS (c_X11_wrong l D A b x3 u hq) mv_X11_104 rfl ⟨Nat.le_of_ble_eq_true rfl, Nat.le_of_ble_eq_true rfl⟩ rfl rfl (Nat.le_of_ble_eq_true rfl) dX11_figures_121 (fun H locs hW hS => ?_)
            clear hq
            refine lv_iload hx hb dX11_figures_124 (lv_at hl 4 rfl) ?_
            cases h
            exact z_iret C0 hr hlk hW hS dX11_figures_126
          · replace h := z_f h hc
            clear hc
            refine lv_aload_n hx hb dX11_figures_97 rfl (lv_at hl 0 rfl) ?_
            refine z_geti C0 hW fl_X11_79 rfl rfl dX11_figures_98 ?_
            refine lv_iload_n hx hb dX11_figures_101 rfl (lv_at hl 3 rfl) ?_
            refine lv_isub hx hb dX11_figures_102 ?_
            refine lv_iconst (v := (3 : Int32)) hx hb dX11_figures_103 (by decide) ?_
            refine lv_icmp_gt (tgt := 119) hx hb dX11_figures_104 (by decide) (fun hc => ?_) (fun hc => ?_)
            · replace h := z_t h hc
              clear hc
              refine lv_aload_n hx hb dX11_figures_119 rfl (lv_at hl 0 rfl) ?_
              refine lv_iload_n hx hb dX11_figures_120 rfl (lv_at hl 3 rfl) ?_
              obtain ⟨u14, hq⟩ : ∃ y, f_X11_wrong x3 u = y := ⟨_, rfl⟩
              replace h := z_lz h hq
              refine z_cvv (As := [.int x3]) C0 hml hl.1 hW hS (c_X11_wrong l D A b x3 u hq) mv_X11_104 rfl ⟨Nat.le_of_ble_eq_true rfl, Nat.le_of_ble_eq_true rfl⟩ rfl rfl (Nat.le_of_ble_eq_true rfl) dX11_figures_121 (fun H locs hW hS => ?_)
              clear hq
              refine lv_iload hx hb dX11_figures_124 (lv_at hl 4 rfl) ?_
              cases h
              exact z_iret C0 hr hlk hW hS dX11_figures_126
            · replace h := z_f h hc
              clear hc
              refine lv_iload hx hb dX11_figures_107 (lv_at hl 4 rfl) ?_
              refine lv_iload_n hx hb dX11_figures_109 rfl (lv_at hl 1 rfl) ?_
              refine lv_icmp_lt (tgt := 119) hx hb dX11_figures_110 (by decide) (fun hc => ?_) (fun hc => ?_)
              · replace h := z_t h hc
                clear hc
                refine lv_aload_n hx hb dX11_figures_119 rfl (lv_at hl 0 rfl) ?_
                refine lv_iload_n hx hb dX11_figures_120 rfl (lv_at hl 3 rfl) ?_
                obtain ⟨u15, hq⟩ : ∃ y, f_X11_wrong x3 u = y := ⟨_, rfl⟩
                replace h := z_lz h hq
                refine z_cvv (As := [.int x3]) C0 hml hl.1 hW hS (c_X11_wrong l D A b x3 u hq) mv_X11_104 rfl ⟨Nat.le_of_ble_eq_true rfl, Nat.le_of_ble_eq_true rfl⟩ rfl rfl (Nat.le_of_ble_eq_true rfl) dX11_figures_121 (fun H locs hW hS => ?_)
                clear hq
                refine lv_iload hx hb dX11_figures_124 (lv_at hl 4 rfl) ?_
                cases h
                exact z_iret C0 hr hlk hW hS dX11_figures_126
              · replace h := z_f h hc
                clear hc
                refine lv_iload hx hb dX11_figures_113 (lv_at hl 4 rfl) ?_
                refine lv_iload_n hx hb dX11_figures_115 rfl (lv_at hl 2 rfl) ?_
                refine lv_icmp_le (tgt := 124) hx hb dX11_figures_116 (by decide) (fun hc => ?_) (fun hc => ?_)
                · replace h := z_t h hc
                  clear hc
                  refine lv_iload hx hb dX11_figures_124 (lv_at hl 4 rfl) ?_
                  cases h
                  exact z_iret C0 hr hlk hW hS dX11_figures_126
                · replace h := z_f h hc
                  clear hc
                  refine lv_aload_n hx hb dX11_figures_119 rfl (lv_at hl 0 rfl) ?_
                  refine lv_iload_n hx hb dX11_figures_120 rfl (lv_at hl 3 rfl) ?_
                  obtain ⟨u16, hq⟩ : ∃ y, f_X11_wrong x3 u = y := ⟨_, rfl⟩
                  replace h := z_lz h hq
                  refine z_cvv (As := [.int x3]) C0 hml hl.1 hW hS (c_X11_wrong l D A b x3 u hq) mv_X11_104 rfl ⟨Nat.le_of_ble_eq_true rfl, Nat.le_of_ble_eq_true rfl⟩ rfl rfl (Nat.le_of_ble_eq_true rfl) dX11_figures_121 (fun H locs hW hS => ?_)
                  clear hq
                  refine lv_iload hx hb dX11_figures_124 (lv_at hl 4 rfl) ?_
                  cases h
                  exact z_iret C0 hr hlk hW hS dX11_figures_126
        · replace h := z_f h hc
          clear hc
          refine lv_bipush (v := (10 : Int32)) hx hb dX11_figures_57 (by decide) ?_
          refine lv_iload hx hb dX11_figures_59 (lv_at hl 4 rfl) ?_
          refine lv_imul hx hb dX11_figures_61 ?_
          refine lv_aload_n hx hb dX11_figures_62 rfl (lv_at hl 0 rfl) ?_
          refine lv_aload_n hx hb dX11_figures_63 rfl (lv_at hl 0 rfl) ?_
          refine z_geti C0 hW fl_X11_79 rfl rfl dX11_figures_64 ?_
          replace h := z_bd h
          obtain ⟨r17, hq, h⟩ := h
          refine z_cvi (As := [.int (u 0 11)]) C0 hml hl.1 hW hS (c_X11_letter l D A b (u 0 11) u hq) mv_X11_85 rfl ⟨Nat.le_of_ble_eq_true rfl, Nat.le_of_ble_eq_true rfl⟩ rfl rfl (Nat.le_of_ble_eq_true rfl) dX11_figures_67 (fun H locs hW hS => ?_)
          clear hq
          refine lv_iadd hx hb dX11_figures_70 ?_
          refine lv_bipush (v := (48 : Int32)) hx hb dX11_figures_71 (by decide) ?_
          refine lv_isub hx hb dX11_figures_73 ?_
          refine lv_topi (fun z18 e1 => ?_)
          replace h := z_ly h e1
          clear e1
          refine lv_istore (lv' := [(4, .int z18), (0, .ref (b + 0)), (1, .int x1), (2, .int x2), (3, .int x3)]) hx hb dX11_figures_74 hl (by decide) rfl (fun ls hl => ?_)
          refine lv_aload_n hx hb dX11_figures_76 rfl (lv_at hl 1 rfl) ?_
          refine lv_dup hx hb dX11_figures_77 rfl ?_
          refine z_geti C0 hW fl_X11_79 rfl rfl dX11_figures_78 ?_
          refine lv_iconst (v := (1 : Int32)) hx hb dX11_figures_81 (by decide) ?_
          refine lv_iadd hx hb dX11_figures_82 ?_
          refine z_puti C0 hW hS fl_X11_79 rfl rfl rfl rfl dX11_figures_83 (fun H locs u19 e1 hW hS => ?_)
          replace h := z_ly h e1
          clear e1
          refine lv_goto (tgt := 18) hx hb dX11_figures_86 (by decide) ?_
          exact ih _ _ _ _ _ _ _ _ h hW hS (lv_sub hl [1, 2, 3, 4, 0] rfl)
theorem f_X11_figures_e (a1 : Int32) (a2 : Int32) (u : zU) : f_X11_figures a1 a2 u = if (u 0 12) = (-1 : Int32) then (z_b2 (f_X11_place u) (fun r1 u2 => f_X11_figures_18 5000 a1 a2 r1 (0 : Int32) u2)) else (some ((0 : Int32), u)) := rfl
set_option maxRecDepth 100000 in
set_option maxHeartbeats 4000000 in
theorem c_X11_figures (l : Launch) (D : zD) (A : Nat → Prop) (b : Nat) (a1 : Int32) (a2 : Int32) (u : zU) {v : Int32} {u' : zU} (h : f_X11_figures a1 a2 u = some (v, u')) : z_M l D A b gM yX11_figures cX11_figures 5 (some .int) 3 61 [.ref (b + 0), .int a1, .int a2] u (some (.int v)) u' := by
  refine z_enter (by decide) (Nat.le_of_ble_eq_true rfl) ?_
  intro p e s m below meth c ls C0 hr hml hlk hW hS hl
  have hl : lv_has ls 5 [(0, .ref (b + 0)), (1, .int a1), (2, .int a2)] := hl
  have hx := C0.1
  have hb := C0.2.1
  rw [f_X11_figures_e] at h
  refine lv_aload_n hx hb dX11_figures_0 rfl (lv_at hl 0 rfl) ?_
  refine z_geti C0 hW fl_X11_25 rfl rfl dX11_figures_1 ?_
  refine lv_iconst (v := (-1 : Int32)) hx hb dX11_figures_4 (by decide) ?_
  refine lv_icmp_eq (tgt := 10) hx hb dX11_figures_5 (by decide) (fun hc => ?_) (fun hc => ?_)
  · replace h := z_t h hc
    clear hc
    refine lv_aload_n hx hb dX11_figures_10 rfl (lv_at hl 0 rfl) ?_
    replace h := z_bd2 h
    obtain ⟨r1, u2, hq, h⟩ := h
    refine z_cvi (As := []) C0 hml hl.1 hW hS (c_X11_place l D A b u hq) mv_X11_101 rfl ⟨Nat.le_of_ble_eq_true rfl, Nat.le_of_ble_eq_true rfl⟩ rfl rfl (Nat.le_of_ble_eq_true rfl) dX11_figures_11 (fun H locs hW hS => ?_)
    clear hq
    refine lv_istore_n (lv' := [(3, .int r1), (0, .ref (b + 0)), (1, .int a1), (2, .int a2)]) hx hb dX11_figures_14 rfl hl (by decide) rfl (fun ls hl => ?_)
    refine lv_iconst (v := (0 : Int32)) hx hb dX11_figures_15 (by decide) ?_
    refine lv_istore (lv' := [(4, .int (0 : Int32)), (3, .int r1), (0, .ref (b + 0)), (1, .int a1), (2, .int a2)]) hx hb dX11_figures_16 hl (by decide) rfl (fun ls hl => ?_)
    exact l_X11_figures_18 C0 hr hml hlk 5000 _ _ _ _ _ _ _ _ h hW hS (lv_sub hl [2, 3, 4, 1, 0] rfl)
  · replace h := z_f h hc
    clear hc
    refine lv_iconst (v := (0 : Int32)) hx hb dX11_figures_8 (by decide) ?_
    cases h
    exact z_iret C0 hr hlk hW hS dX11_figures_9
def f_X11_after (a1 : Nat) (a2 : Int32) (a3 : Int32) (u : zU) : Option (Int32 × zU) :=
  if (u 0 12) = (-1 : Int32) then (z_b2 (f_X11_has a1 u) (fun t3 u4 => if t3 = true then (z_b2 (f_X11_figures a2 a3 u4) (fun r5 u6 => some (r5, u6))) else (z_let (f_X11_wrong (u4 0 11) u4) (fun u7 => z_b2 (f_X11_figures a2 a3 u7) (fun r8 u9 => some (r8, u9)))))) else (z_b2 (f_X11_figures a2 a3 u) (fun r1 u2 => some (r1, u2)))
theorem f_X11_after_e (a1 : Nat) (a2 : Int32) (a3 : Int32) (u : zU) : f_X11_after a1 a2 a3 u = if (u 0 12) = (-1 : Int32) then (z_b2 (f_X11_has a1 u) (fun t3 u4 => if t3 = true then (z_b2 (f_X11_figures a2 a3 u4) (fun r5 u6 => some (r5, u6))) else (z_let (f_X11_wrong (u4 0 11) u4) (fun u7 => z_b2 (f_X11_figures a2 a3 u7) (fun r8 u9 => some (r8, u9)))))) else (z_b2 (f_X11_figures a2 a3 u) (fun r1 u2 => some (r1, u2))) := rfl
set_option maxRecDepth 100000 in
set_option maxHeartbeats 4000000 in
theorem c_X11_after (l : Launch) (D : zD) (A : Nat → Prop) (b : Nat) (a1 : Nat) (a2 : Int32) (a3 : Int32) (hs_a1 : a1 < sN) (u : zU) {v : Int32} {u' : zU} (h : f_X11_after a1 a2 a3 u = some (v, u')) : z_M l D A b gM yX11_after cX11_after 4 (some .int) 5 108 [.ref (b + 0), .ref (sA D a1), .int a2, .int a3] u (some (.int v)) u' := by
  refine z_enter (by decide) (Nat.le_of_ble_eq_true rfl) ?_
  intro p e s m below meth c ls C0 hr hml hlk hW hS hl
  have hl : lv_has ls 4 [(0, .ref (b + 0)), (1, .ref (sA D a1)), (2, .int a2), (3, .int a3)] := hl
  have hx := C0.1
  have hb := C0.2.1
  rw [f_X11_after_e] at h
  refine lv_aload_n hx hb dX11_after_0 rfl (lv_at hl 0 rfl) ?_
  refine z_geti C0 hW fl_X11_25 rfl rfl dX11_after_1 ?_
  refine lv_iconst (v := (-1 : Int32)) hx hb dX11_after_4 (by decide) ?_
  refine lv_icmp_ne (tgt := 24) hx hb dX11_after_5 (by decide) (fun hc => ?_) (fun hc => ?_)
  · replace h := z_f h hc
    clear hc
    refine lv_aload_n hx hb dX11_after_24 rfl (lv_at hl 0 rfl) ?_
    refine lv_iload_n hx hb dX11_after_25 rfl (lv_at hl 2 rfl) ?_
    refine lv_iload_n hx hb dX11_after_26 rfl (lv_at hl 3 rfl) ?_
    replace h := z_bd2 h
    obtain ⟨r1, u2, hq, h⟩ := h
    refine z_cvi (As := [.int a2, .int a3]) C0 hml hl.1 hW hS (c_X11_figures l D A b a2 a3 u hq) mv_X11_112 rfl ⟨Nat.le_of_ble_eq_true rfl, Nat.le_of_ble_eq_true rfl⟩ rfl rfl (Nat.le_of_ble_eq_true rfl) dX11_after_27 (fun H locs hW hS => ?_)
    clear hq
    cases h
    exact z_iret C0 hr hlk hW hS dX11_after_30
  · replace h := z_t h hc
    clear hc
    refine lv_aload_n hx hb dX11_after_8 rfl (lv_at hl 0 rfl) ?_
    refine lv_aload_n hx hb dX11_after_9 rfl (lv_at hl 1 rfl) ?_
    replace h := z_bd2 h
    obtain ⟨t3, u4, hq, h⟩ := h
    refine z_cvi (As := [.ref (sA D a1)]) C0 hml hl.1 hW hS (c_X11_has l D A b a1 hs_a1 u hq) mv_X11_108 rfl ⟨Nat.le_of_ble_eq_true rfl, Nat.le_of_ble_eq_true rfl⟩ rfl rfl (Nat.le_of_ble_eq_true rfl) dX11_after_10 (fun H locs hW hS => ?_)
    clear hq
    refine z_ifneZ C0 (tgt := 24) dX11_after_13 (by decide) (fun hc => ?_) (fun hc => ?_)
    · replace h := z_t h hc
      clear hc
      refine lv_aload_n hx hb dX11_after_24 rfl (lv_at hl 0 rfl) ?_
      refine lv_iload_n hx hb dX11_after_25 rfl (lv_at hl 2 rfl) ?_
      refine lv_iload_n hx hb dX11_after_26 rfl (lv_at hl 3 rfl) ?_
      replace h := z_bd2 h
      obtain ⟨r5, u6, hq, h⟩ := h
      refine z_cvi (As := [.int a2, .int a3]) C0 hml hl.1 hW hS (c_X11_figures l D A b a2 a3 u4 hq) mv_X11_112 rfl ⟨Nat.le_of_ble_eq_true rfl, Nat.le_of_ble_eq_true rfl⟩ rfl rfl (Nat.le_of_ble_eq_true rfl) dX11_after_27 (fun H locs hW hS => ?_)
      clear hq
      cases h
      exact z_iret C0 hr hlk hW hS dX11_after_30
    · replace h := z_ff h hc
      clear hc
      refine lv_aload_n hx hb dX11_after_16 rfl (lv_at hl 0 rfl) ?_
      refine lv_aload_n hx hb dX11_after_17 rfl (lv_at hl 0 rfl) ?_
      refine z_geti C0 hW fl_X11_79 rfl rfl dX11_after_18 ?_
      obtain ⟨u7, hq⟩ : ∃ y, f_X11_wrong (u4 0 11) u4 = y := ⟨_, rfl⟩
      replace h := z_lz h hq
      refine z_cvv (As := [.int (u4 0 11)]) C0 hml hl.1 hW hS (c_X11_wrong l D A b (u4 0 11) u4 hq) mv_X11_104 rfl ⟨Nat.le_of_ble_eq_true rfl, Nat.le_of_ble_eq_true rfl⟩ rfl rfl (Nat.le_of_ble_eq_true rfl) dX11_after_21 (fun H locs hW hS => ?_)
      clear hq
      refine lv_aload_n hx hb dX11_after_24 rfl (lv_at hl 0 rfl) ?_
      refine lv_iload_n hx hb dX11_after_25 rfl (lv_at hl 2 rfl) ?_
      refine lv_iload_n hx hb dX11_after_26 rfl (lv_at hl 3 rfl) ?_
      replace h := z_bd2 h
      obtain ⟨r8, u9, hq, h⟩ := h
      refine z_cvi (As := [.int a2, .int a3]) C0 hml hl.1 hW hS (c_X11_figures l D A b a2 a3 u7 hq) mv_X11_112 rfl ⟨Nat.le_of_ble_eq_true rfl, Nat.le_of_ble_eq_true rfl⟩ rfl rfl (Nat.le_of_ble_eq_true rfl) dX11_after_27 (fun H locs hW hS => ?_)
      clear hq
      cases h
      exact z_iret C0 hr hlk hW hS dX11_after_30
