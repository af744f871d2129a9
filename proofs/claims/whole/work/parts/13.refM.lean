def f_X11_seed (a1 : Int32) (u : zU) : Int32 × zU :=
  z_let (z_up u 0 0 (0 : Int32)) (fun u1 => z_let (u1 1 12) (fun z2 => z_let (z_up u1 1 12 a1) (fun u3 => (z2, u3))))
theorem f_X11_seed_e (a1 : Int32) (u : zU) : f_X11_seed a1 u = z_let (z_up u 0 0 (0 : Int32)) (fun u1 => z_let (u1 1 12) (fun z2 => z_let (z_up u1 1 12 a1) (fun u3 => (z2, u3)))) := rfl
set_option maxRecDepth 100000 in
set_option maxHeartbeats 4000000 in
theorem c_X11_seed (l : Launch) (D : zD) (A : Nat → Prop) (b : Nat) (a1 : Int32) (u : zU) {v : Int32} {u' : zU} (h : f_X11_seed a1 u = (v, u')) : z_M l D A b gM yX11_seed cX11_seed 3 (some .int) 0 0 [.ref (b + 0), .int a1] u (some (.int v)) u' := by
  refine z_enter (by decide) (Nat.le_of_ble_eq_true rfl) ?_
  intro p e s m below meth c ls C0 hr hml hlk hW hS hl
  have hl : lv_has ls 3 [(0, .ref (b + 0)), (1, .int a1)] := hl
  have hx := C0.1
  have hb := C0.2.1
  rw [f_X11_seed_e] at h
  refine lv_aload_n hx hb dX11_seed_0 rfl (lv_at hl 0 rfl) ?_
  refine lv_iconst (v := (0 : Int32)) hx hb dX11_seed_1 (by decide) ?_
  refine z_puti C0 hW hS fl_X11_42 rfl rfl rfl rfl dX11_seed_2 (fun H locs u1 e1 hW hS => ?_)
  replace h := z_ly h e1
  clear e1
  refine lv_aload_n hx hb dX11_seed_5 rfl (lv_at hl 0 rfl) ?_
  refine z_getr (o := 1) C0 hW fl_X11_7 rfl rfl rfl dX11_seed_6 ?_
  refine lv_bipush (v := (12 : Int32)) hx hb dX11_seed_9 (by decide) ?_
  refine z_iald (k := 12) (n := 705) C0 hW rfl rfl (by decide) (by decide) dX11_seed_11 ?_
  refine lv_topi (fun z2 e1 => ?_)
  replace h := z_ly h e1
  clear e1
  refine lv_istore_n (lv' := [(2, .int z2), (0, .ref (b + 0)), (1, .int a1)]) hx hb dX11_seed_12 rfl hl (by decide) rfl (fun ls hl => ?_)
  refine lv_aload_n hx hb dX11_seed_13 rfl (lv_at hl 1 rfl) ?_
  refine z_getr (o := 1) C0 hW fl_X11_7 rfl rfl rfl dX11_seed_14 ?_
  refine lv_bipush (v := (12 : Int32)) hx hb dX11_seed_17 (by decide) ?_
  refine lv_iload_n hx hb dX11_seed_19 rfl (lv_at hl 2 rfl) ?_
  refine z_iast (k := 12) (n := 705) C0 hW hS rfl rfl (by decide) (by decide) dX11_seed_20 (fun H locs u3 e1 hW hS => ?_)
  replace h := z_ly h e1
  clear e1
  refine lv_iload_n hx hb dX11_seed_21 rfl (lv_at hl 0 rfl) ?_
  cases h
  exact z_iret C0 hr hlk hW hS dX11_seed_22
def f_X11_undo_26 : Nat → Int32 → zU → Option (Bool × zU)
  | 0, _, _ => none
  | n + 1, x1, u =>
    if (305 : Int32) ≤ x1 then (some (true, u)) else (if z_in (((305 : Int32) * (u 0 6)) + x1) 3660 = true then (z_let (u 4 (((305 : Int32) * (u 0 6)) + x1).toNatClampNeg) (fun z3 => if z_in x1 705 = true then (z_let (z_up u 1 (x1).toNatClampNeg z3) (fun u4 => f_X11_undo_26 n (x1 + (1 : Int32)) u4)) else none)) else none)
theorem f_X11_undo_26_s (n : Nat) (x1 : Int32) (u : zU) : f_X11_undo_26 (n + 1) x1 u = if (305 : Int32) ≤ x1 then (some (true, u)) else (if z_in (((305 : Int32) * (u 0 6)) + x1) 3660 = true then (z_let (u 4 (((305 : Int32) * (u 0 6)) + x1).toNatClampNeg) (fun z3 => if z_in x1 705 = true then (z_let (z_up u 1 (x1).toNatClampNeg z3) (fun u4 => f_X11_undo_26 n (x1 + (1 : Int32)) u4)) else none)) else none) := rfl
def f_X11_undo  (u : zU) : Option (Bool × zU) :=
  z_let (z_up u 0 0 (0 : Int32)) (fun u1 => if (u1 0 6) = 0 then (some (false, u1)) else (z_let (z_up u1 0 6 ((u1 0 6) - (1 : Int32))) (fun u2 => f_X11_undo_26 5000 (0 : Int32) u2)))
set_option maxRecDepth 100000 in
set_option maxHeartbeats 4000000 in
theorem l_X11_undo_26 {l : Launch} {D : zD} {A : Nat → Prop} {b : Nat} {p : Program} {e : Env} {s : State} {m : MethodId} {args : Array Value} {below : List Frame} {meth : Method} {c : Code} {v : Bool} {u' : zU} (C0 : z_C p c cX11_undo s m args yX11_undo.cls D A) (hr : meth.sig.returnType = (some .boolean)) (hml : c.maxLocals = 2) (hlk : meth.locks = false) : ∀ (n : Nat) (x1 : Int32) (u : zU) (H : Heap) (locs : List Loc) (ls : Array Slot), f_X11_undo_26 n x1 u = some (v, u') → z_W D A b gM u H → va_S A s.heap H locs → lv_has ls 2 [(0, .ref (b + 0)), (1, .int x1)] → W p l e { frames := 0, cells := 0, slots := 0, locals := 0 } s m args below meth c H locs 0 0 (z_End D A b gM below args s (some (.int (bI v))) u') (F0 m 26 ls []) := by
  have hx := C0.1
  have hb := C0.2.1
  intro n
  induction n with
  | zero => intro x1 u H locs ls h hW hS hl; cases h
  | succ n ih =>
    intro x1 u H locs ls h hW hS hl
    rw [f_X11_undo_26_s] at h
    refine lv_iload_n hx hb dX11_undo_26 rfl (lv_at hl 1 rfl) ?_
    refine lv_sipush (v := (305 : Int32)) hx hb dX11_undo_27 (by decide) ?_
    refine lv_icmp_ge (tgt := 60) hx hb dX11_undo_30 (by decide) (fun hc => ?_) (fun hc => ?_)
    · replace h := z_t h hc
      clear hc
      refine lv_iconst (v := (1 : Int32)) hx hb dX11_undo_60 (by decide) ?_
      cases h
      exact z_zret (x := true) C0 hr hlk hW hS dX11_undo_61
    · replace h := z_f h hc
      clear hc
      refine lv_aload_n hx hb dX11_undo_33 rfl (lv_at hl 0 rfl) ?_
      refine z_getr (o := 1) C0 hW fl_X11_7 rfl rfl rfl dX11_undo_34 ?_
      refine lv_iload_n hx hb dX11_undo_37 rfl (lv_at hl 1 rfl) ?_
      refine lv_aload_n hx hb dX11_undo_38 rfl (lv_at hl 0 rfl) ?_
      refine z_getr (o := 4) C0 hW fl_X11_19 rfl rfl rfl dX11_undo_39 ?_
      refine lv_sipush (v := (305 : Int32)) hx hb dX11_undo_42 (by decide) ?_
      refine lv_aload_n hx hb dX11_undo_45 rfl (lv_at hl 0 rfl) ?_
      refine z_geti C0 hW fl_X11_182 rfl rfl dX11_undo_46 ?_
      refine lv_imul hx hb dX11_undo_49 ?_
      refine lv_iload_n hx hb dX11_undo_50 rfl (lv_at hl 1 rfl) ?_
      refine lv_iadd hx hb dX11_undo_51 ?_
      replace h := z_if h
      obtain ⟨hin, h⟩ := h
      refine z_iald (n := 3660) C0 hW rfl rfl hin rfl dX11_undo_52 ?_
      clear hin
      refine lv_topi (fun z3 e1 => ?_)
      replace h := z_ly h e1
      clear e1
      replace h := z_if h
      obtain ⟨hin, h⟩ := h
      refine z_iast (n := 705) C0 hW hS rfl rfl hin rfl dX11_undo_53 (fun H locs u4 e1 hW hS => ?_)
      replace h := z_ly h e1
      clear e1
      refine lv_iinc (v := x1 + (1 : Int32)) (lv' := [(1, .int (x1 + (1 : Int32))), (0, .ref (b + 0))]) hx hb dX11_undo_54 hl (k := 1) rfl rfl (by decide) rfl (fun ls hl => ?_)
      refine lv_goto (tgt := 26) hx hb dX11_undo_57 (by decide) ?_
      exact ih _ _ _ _ _ h hW hS (lv_sub hl [1, 0] rfl)
theorem f_X11_undo_e  (u : zU) : f_X11_undo u = z_let (z_up u 0 0 (0 : Int32)) (fun u1 => if (u1 0 6) = 0 then (some (false, u1)) else (z_let (z_up u1 0 6 ((u1 0 6) - (1 : Int32))) (fun u2 => f_X11_undo_26 5000 (0 : Int32) u2))) := rfl
set_option maxRecDepth 100000 in
set_option maxHeartbeats 4000000 in
theorem c_X11_undo (l : Launch) (D : zD) (A : Nat → Prop) (b : Nat)  (u : zU) {v : Bool} {u' : zU} (h : f_X11_undo u = some (v, u')) : z_M l D A b gM yX11_undo cX11_undo 2 (some .boolean) 0 0 [.ref (b + 0)] u (some (.int (bI v))) u' := by
  refine z_enter (by decide) (Nat.le_of_ble_eq_true rfl) ?_
  intro p e s m below meth c ls C0 hr hml hlk hW hS hl
  have hl : lv_has ls 2 [(0, .ref (b + 0))] := hl
  have hx := C0.1
  have hb := C0.2.1
  rw [f_X11_undo_e] at h
  refine lv_aload_n hx hb dX11_undo_0 rfl (lv_at hl 0 rfl) ?_
  refine lv_iconst (v := (0 : Int32)) hx hb dX11_undo_1 (by decide) ?_
  refine z_puti C0 hW hS fl_X11_42 rfl rfl rfl rfl dX11_undo_2 (fun H locs u1 e1 hW hS => ?_)
  replace h := z_ly h e1
  clear e1
  refine lv_aload_n hx hb dX11_undo_5 rfl (lv_at hl 0 rfl) ?_
  refine z_geti C0 hW fl_X11_182 rfl rfl dX11_undo_6 ?_
  refine lv_if_ne (tgt := 14) hx hb dX11_undo_9 (by decide) (fun hc => ?_) (fun hc => ?_)
  · replace h := z_f h hc
    clear hc
    refine lv_aload_n hx hb dX11_undo_14 rfl (lv_at hl 0 rfl) ?_
    refine lv_dup hx hb dX11_undo_15 rfl ?_
    refine z_geti C0 hW fl_X11_182 rfl rfl dX11_undo_16 ?_
    refine lv_iconst (v := (1 : Int32)) hx hb dX11_undo_19 (by decide) ?_
    refine lv_isub hx hb dX11_undo_20 ?_
    refine z_puti C0 hW hS fl_X11_182 rfl rfl rfl rfl dX11_undo_21 (fun H locs u2 e1 hW hS => ?_)
    replace h := z_ly h e1
    clear e1
    refine lv_iconst (v := (0 : Int32)) hx hb dX11_undo_24 (by decide) ?_
    refine lv_istore_n (lv' := [(1, .int (0 : Int32)), (0, .ref (b + 0))]) hx hb dX11_undo_25 rfl hl (by decide) rfl (fun ls hl => ?_)
    exact l_X11_undo_26 C0 hr hml hlk 5000 _ _ _ _ _ h hW hS (lv_sub hl [1, 0] rfl)
  · replace h := z_t h hc
    clear hc
    refine lv_iconst (v := (0 : Int32)) hx hb dX11_undo_12 (by decide) ?_
    cases h
    exact z_zret (x := false) C0 hr hlk hW hS dX11_undo_13
def f_X11_image_7 : Nat → Int32 → zU → Option (zU)
  | 0, _, _ => none
  | n + 1, x1, u =>
    if (705 : Int32) ≤ x1 then (z_let (z_up u 0 3 (1 : Int32)) (fun u2 => some u2)) else (if z_in x1 705 = true then (z_let (u 1 (x1).toNatClampNeg) (fun z3 => if z_in x1 705 = true then (z_let (z_up u 2 (x1).toNatClampNeg z3) (fun u4 => f_X11_image_7 n (x1 + (1 : Int32)) u4)) else none)) else none)
theorem f_X11_image_7_s (n : Nat) (x1 : Int32) (u : zU) : f_X11_image_7 (n + 1) x1 u = if (705 : Int32) ≤ x1 then (z_let (z_up u 0 3 (1 : Int32)) (fun u2 => some u2)) else (if z_in x1 705 = true then (z_let (u 1 (x1).toNatClampNeg) (fun z3 => if z_in x1 705 = true then (z_let (z_up u 2 (x1).toNatClampNeg z3) (fun u4 => f_X11_image_7 n (x1 + (1 : Int32)) u4)) else none)) else none) := rfl
def f_X11_image  (u : zU) : Option (zU) :=
  z_let (z_up u 0 0 (0 : Int32)) (fun u1 => f_X11_image_7 5000 (0 : Int32) u1)
set_option maxRecDepth 100000 in
set_option maxHeartbeats 4000000 in
theorem l_X11_image_7 {l : Launch} {D : zD} {A : Nat → Prop} {b : Nat} {p : Program} {e : Env} {s : State} {m : MethodId} {args : Array Value} {below : List Frame} {meth : Method} {c : Code} {u' : zU} (C0 : z_C p c cX11_image s m args yX11_image.cls D A) (hr : meth.sig.returnType = none) (hml : c.maxLocals = 2) (hlk : meth.locks = false) : ∀ (n : Nat) (x1 : Int32) (u : zU) (H : Heap) (locs : List Loc) (ls : Array Slot), f_X11_image_7 n x1 u = some u' → z_W D A b gM u H → va_S A s.heap H locs → lv_has ls 2 [(0, .ref (b + 0)), (1, .int x1)] → W p l e { frames := 0, cells := 0, slots := 0, locals := 0 } s m args below meth c H locs 0 0 (z_End D A b gM below args s none u') (F0 m 7 ls []) := by
  have hx := C0.1
  have hb := C0.2.1
  intro n
  induction n with
  | zero => intro x1 u H locs ls h hW hS hl; cases h
  | succ n ih =>
    intro x1 u H locs ls h hW hS hl
    rw [f_X11_image_7_s] at h
    refine lv_iload_n hx hb dX11_image_7 rfl (lv_at hl 1 rfl) ?_
    refine lv_sipush (v := (705 : Int32)) hx hb dX11_image_8 (by decide) ?_
    refine lv_icmp_ge (tgt := 32) hx hb dX11_image_11 (by decide) (fun hc => ?_) (fun hc => ?_)
    · replace h := z_t h hc
      clear hc
      refine lv_aload_n hx hb dX11_image_32 rfl (lv_at hl 0 rfl) ?_
      refine lv_iconst (v := (1 : Int32)) hx hb dX11_image_33 (by decide) ?_
      refine z_puti C0 hW hS fl_X11_360 rfl rfl rfl rfl dX11_image_34 (fun H locs u2 e1 hW hS => ?_)
      replace h := z_ly h e1
      clear e1
      cases h
      exact z_vret C0 hr hlk hW hS dX11_image_37
    · replace h := z_f h hc
      clear hc
      refine lv_aload_n hx hb dX11_image_14 rfl (lv_at hl 0 rfl) ?_
      refine z_getr (o := 2) C0 hW fl_X11_13 rfl rfl rfl dX11_image_15 ?_
      refine lv_iload_n hx hb dX11_image_18 rfl (lv_at hl 1 rfl) ?_
      refine lv_aload_n hx hb dX11_image_19 rfl (lv_at hl 0 rfl) ?_
      refine z_getr (o := 1) C0 hW fl_X11_7 rfl rfl rfl dX11_image_20 ?_
      refine lv_iload_n hx hb dX11_image_23 rfl (lv_at hl 1 rfl) ?_
      replace h := z_if h
      obtain ⟨hin, h⟩ := h
      refine z_iald (n := 705) C0 hW rfl rfl hin rfl dX11_image_24 ?_
      clear hin
      refine lv_topi (fun z3 e1 => ?_)
      replace h := z_ly h e1
      clear e1
      replace h := z_if h
      obtain ⟨hin, h⟩ := h
      refine z_iast (n := 705) C0 hW hS rfl rfl hin rfl dX11_image_25 (fun H locs u4 e1 hW hS => ?_)
      replace h := z_ly h e1
      clear e1
      refine lv_iinc (v := x1 + (1 : Int32)) (lv' := [(1, .int (x1 + (1 : Int32))), (0, .ref (b + 0))]) hx hb dX11_image_26 hl (k := 1) rfl rfl (by decide) rfl (fun ls hl => ?_)
      refine lv_goto (tgt := 7) hx hb dX11_image_29 (by decide) ?_
      exact ih _ _ _ _ _ h hW hS (lv_sub hl [1, 0] rfl)
theorem f_X11_image_e  (u : zU) : f_X11_image u = z_let (z_up u 0 0 (0 : Int32)) (fun u1 => f_X11_image_7 5000 (0 : Int32) u1) := rfl
set_option maxRecDepth 100000 in
set_option maxHeartbeats 4000000 in
theorem c_X11_image (l : Launch) (D : zD) (A : Nat → Prop) (b : Nat)  (u : zU) {u' : zU} (h : f_X11_image u = some u') : z_M l D A b gM yX11_image cX11_image 2 none 0 0 [.ref (b + 0)] u none u' := by
  refine z_enter (by decide) (Nat.le_of_ble_eq_true rfl) ?_
  intro p e s m below meth c ls C0 hr hml hlk hW hS hl
  have hl : lv_has ls 2 [(0, .ref (b + 0))] := hl
  have hx := C0.1
  have hb := C0.2.1
  rw [f_X11_image_e] at h
  refine lv_aload_n hx hb dX11_image_0 rfl (lv_at hl 0 rfl) ?_
  refine lv_iconst (v := (0 : Int32)) hx hb dX11_image_1 (by decide) ?_
  refine z_puti C0 hW hS fl_X11_42 rfl rfl rfl rfl dX11_image_2 (fun H locs u1 e1 hW hS => ?_)
  replace h := z_ly h e1
  clear e1
  refine lv_iconst (v := (0 : Int32)) hx hb dX11_image_5 (by decide) ?_
  refine lv_istore_n (lv' := [(1, .int (0 : Int32)), (0, .ref (b + 0))]) hx hb dX11_image_6 rfl hl (by decide) rfl (fun ls hl => ?_)
  exact l_X11_image_7 C0 hr hml hlk 5000 _ _ _ _ _ h hW hS (lv_sub hl [1, 0] rfl)
def f_X11_back_16 : Nat → Int32 → zU → Option (Bool × zU)
  | 0, _, _ => none
  | n + 1, x1, u =>
    if (705 : Int32) ≤ x1 then (z_let (z_up u 0 6 (0 : Int32)) (fun u2 => some (true, u2))) else (if z_in x1 705 = true then (z_let (u 2 (x1).toNatClampNeg) (fun z3 => if z_in x1 705 = true then (z_let (z_up u 1 (x1).toNatClampNeg z3) (fun u4 => f_X11_back_16 n (x1 + (1 : Int32)) u4)) else none)) else none)
theorem f_X11_back_16_s (n : Nat) (x1 : Int32) (u : zU) : f_X11_back_16 (n + 1) x1 u = if (705 : Int32) ≤ x1 then (z_let (z_up u 0 6 (0 : Int32)) (fun u2 => some (true, u2))) else (if z_in x1 705 = true then (z_let (u 2 (x1).toNatClampNeg) (fun z3 => if z_in x1 705 = true then (z_let (z_up u 1 (x1).toNatClampNeg z3) (fun u4 => f_X11_back_16 n (x1 + (1 : Int32)) u4)) else none)) else none) := rfl
def f_X11_back  (u : zU) : Option (Bool × zU) :=
  z_let (z_up u 0 0 (0 : Int32)) (fun u1 => if (u1 0 3) = 0 then (some (false, u1)) else (f_X11_back_16 5000 (0 : Int32) u1))
set_option maxRecDepth 100000 in
set_option maxHeartbeats 4000000 in
theorem l_X11_back_16 {l : Launch} {D : zD} {A : Nat → Prop} {b : Nat} {p : Program} {e : Env} {s : State} {m : MethodId} {args : Array Value} {below : List Frame} {meth : Method} {c : Code} {v : Bool} {u' : zU} (C0 : z_C p c cX11_back s m args yX11_back.cls D A) (hr : meth.sig.returnType = (some .boolean)) (hml : c.maxLocals = 2) (hlk : meth.locks = false) : ∀ (n : Nat) (x1 : Int32) (u : zU) (H : Heap) (locs : List Loc) (ls : Array Slot), f_X11_back_16 n x1 u = some (v, u') → z_W D A b gM u H → va_S A s.heap H locs → lv_has ls 2 [(0, .ref (b + 0)), (1, .int x1)] → W p l e { frames := 0, cells := 0, slots := 0, locals := 0 } s m args below meth c H locs 0 0 (z_End D A b gM below args s (some (.int (bI v))) u') (F0 m 16 ls []) := by
  have hx := C0.1
  have hb := C0.2.1
  intro n
  induction n with
  | zero => intro x1 u H locs ls h hW hS hl; cases h
  | succ n ih =>
    intro x1 u H locs ls h hW hS hl
    rw [f_X11_back_16_s] at h
    refine lv_iload_n hx hb dX11_back_16 rfl (lv_at hl 1 rfl) ?_
    refine lv_sipush (v := (705 : Int32)) hx hb dX11_back_17 (by decide) ?_
    refine lv_icmp_ge (tgt := 41) hx hb dX11_back_20 (by decide) (fun hc => ?_) (fun hc => ?_)
    · replace h := z_t h hc
      clear hc
      refine lv_aload_n hx hb dX11_back_41 rfl (lv_at hl 0 rfl) ?_
      refine lv_iconst (v := (0 : Int32)) hx hb dX11_back_42 (by decide) ?_
      refine z_puti C0 hW hS fl_X11_182 rfl rfl rfl rfl dX11_back_43 (fun H locs u2 e1 hW hS => ?_)
      replace h := z_ly h e1
      clear e1
      refine lv_iconst (v := (1 : Int32)) hx hb dX11_back_46 (by decide) ?_
      cases h
      exact z_zret (x := true) C0 hr hlk hW hS dX11_back_47
    · replace h := z_f h hc
      clear hc
      refine lv_aload_n hx hb dX11_back_23 rfl (lv_at hl 0 rfl) ?_
      refine z_getr (o := 1) C0 hW fl_X11_7 rfl rfl rfl dX11_back_24 ?_
      refine lv_iload_n hx hb dX11_back_27 rfl (lv_at hl 1 rfl) ?_
      refine lv_aload_n hx hb dX11_back_28 rfl (lv_at hl 0 rfl) ?_
      refine z_getr (o := 2) C0 hW fl_X11_13 rfl rfl rfl dX11_back_29 ?_
      refine lv_iload_n hx hb dX11_back_32 rfl (lv_at hl 1 rfl) ?_
      replace h := z_if h
      obtain ⟨hin, h⟩ := h
      refine z_iald (n := 705) C0 hW rfl rfl hin rfl dX11_back_33 ?_
      clear hin
      refine lv_topi (fun z3 e1 => ?_)
      replace h := z_ly h e1
      clear e1
      replace h := z_if h
      obtain ⟨hin, h⟩ := h
      refine z_iast (n := 705) C0 hW hS rfl rfl hin rfl dX11_back_34 (fun H locs u4 e1 hW hS => ?_)
      replace h := z_ly h e1
      clear e1
      refine lv_iinc (v := x1 + (1 : Int32)) (lv' := [(1, .int (x1 + (1 : Int32))), (0, .ref (b + 0))]) hx hb dX11_back_35 hl (k := 1) rfl rfl (by decide) rfl (fun ls hl => ?_)
      refine lv_goto (tgt := 16) hx hb dX11_back_38 (by decide) ?_
      exact ih _ _ _ _ _ h hW hS (lv_sub hl [1, 0] rfl)
theorem f_X11_back_e  (u : zU) : f_X11_back u = z_let (z_up u 0 0 (0 : Int32)) (fun u1 => if (u1 0 3) = 0 then (some (false, u1)) else (f_X11_back_16 5000 (0 : Int32) u1)) := rfl
set_option maxRecDepth 100000 in
set_option maxHeartbeats 4000000 in
theorem c_X11_back (l : Launch) (D : zD) (A : Nat → Prop) (b : Nat)  (u : zU) {v : Bool} {u' : zU} (h : f_X11_back u = some (v, u')) : z_M l D A b gM yX11_back cX11_back 2 (some .boolean) 0 0 [.ref (b + 0)] u (some (.int (bI v))) u' := by
  refine z_enter (by decide) (Nat.le_of_ble_eq_true rfl) ?_
  intro p e s m below meth c ls C0 hr hml hlk hW hS hl
  have hl : lv_has ls 2 [(0, .ref (b + 0))] := hl
  have hx := C0.1
  have hb := C0.2.1
  rw [f_X11_back_e] at h
  refine lv_aload_n hx hb dX11_back_0 rfl (lv_at hl 0 rfl) ?_
  refine lv_iconst (v := (0 : Int32)) hx hb dX11_back_1 (by decide) ?_
  refine z_puti C0 hW hS fl_X11_42 rfl rfl rfl rfl dX11_back_2 (fun H locs u1 e1 hW hS => ?_)
  replace h := z_ly h e1
  clear e1
  refine lv_aload_n hx hb dX11_back_5 rfl (lv_at hl 0 rfl) ?_
  refine z_geti C0 hW fl_X11_360 rfl rfl dX11_back_6 ?_
  refine lv_if_ne (tgt := 14) hx hb dX11_back_9 (by decide) (fun hc => ?_) (fun hc => ?_)
  · replace h := z_f h hc
    clear hc
    refine lv_iconst (v := (0 : Int32)) hx hb dX11_back_14 (by decide) ?_
    refine lv_istore_n (lv' := [(1, .int (0 : Int32)), (0, .ref (b + 0))]) hx hb dX11_back_15 rfl hl (by decide) rfl (fun ls hl => ?_)
    exact l_X11_back_16 C0 hr hml hlk 5000 _ _ _ _ _ h hW hS (lv_sub hl [1, 0] rfl)
  · replace h := z_t h hc
    clear hc
    refine lv_iconst (v := (0 : Int32)) hx hb dX11_back_12 (by decide) ?_
    cases h
    exact z_zret (x := false) C0 hr hlk hW hS dX11_back_13
def f_X11_count_192 : Nat → Int32 → Int32 → Int32 → zU → Option (Int32 × zU)
  | 0, _, _, _, _ => none
  | n + 1, x1, x2, x3, u =>
    if (8 : Int32) ≤ x3 then (z_let (f_X11_isIn x1 (10 : Int32) (12 : Int32) u) (fun t3 => if t3 = true then (some (x2, u)) else (some ((-1 : Int32), u)))) else (if x1 = (12 : Int32) then (if z_in ((17 : Int32) + x3) 705 = true then (z_let (u 1 ((17 : Int32) + x3).toNatClampNeg) (fun z5 => z_let (x2 + z5) (fun z6 => f_X11_count_192 n x1 z6 (x3 + (1 : Int32)) u))) else none) else (z_let (f_X11_isIn x1 (10 : Int32) (12 : Int32) u) (fun t4 => if t4 = true then (some (x2, u)) else (some ((-1 : Int32), u)))))
theorem f_X11_count_192_s (n : Nat) (x1 : Int32) (x2 : Int32) (x3 : Int32) (u : zU) : f_X11_count_192 (n + 1) x1 x2 x3 u = if (8 : Int32) ≤ x3 then (z_let (f_X11_isIn x1 (10 : Int32) (12 : Int32) u) (fun t3 => if t3 = true then (some (x2, u)) else (some ((-1 : Int32), u)))) else (if x1 = (12 : Int32) then (if z_in ((17 : Int32) + x3) 705 = true then (z_let (u 1 ((17 : Int32) + x3).toNatClampNeg) (fun z5 => z_let (x2 + z5) (fun z6 => f_X11_count_192 n x1 z6 (x3 + (1 : Int32)) u))) else none) else (z_let (f_X11_isIn x1 (10 : Int32) (12 : Int32) u) (fun t4 => if t4 = true then (some (x2, u)) else (some ((-1 : Int32), u))))) := rfl
def f_X11_count_159 : Nat → Int32 → Int32 → Int32 → zU → Option (Int32 × zU)
  | 0, _, _, _, _ => none
  | n + 1, x1, x2, x3, u =>
    if (u 1 3) ≤ x3 then (f_X11_count_192 5000 x1 x2 (0 : Int32) u) else (if x1 = (11 : Int32) then ((f_X11_of x3 (2 : Int32) u).bind (fun r7 => z_let (x2 + r7) (fun z8 => f_X11_count_159 n x1 z8 (x3 + (1 : Int32)) u))) else (f_X11_count_192 5000 x1 x2 (0 : Int32) u))
theorem f_X11_count_159_s (n : Nat) (x1 : Int32) (x2 : Int32) (x3 : Int32) (u : zU) : f_X11_count_159 (n + 1) x1 x2 x3 u = if (u 1 3) ≤ x3 then (f_X11_count_192 5000 x1 x2 (0 : Int32) u) else (if x1 = (11 : Int32) then ((f_X11_of x3 (2 : Int32) u).bind (fun r7 => z_let (x2 + r7) (fun z8 => f_X11_count_159 n x1 z8 (x3 + (1 : Int32)) u))) else (f_X11_count_192 5000 x1 x2 (0 : Int32) u)) := rfl
def f_X11_count_117 : Nat → Int32 → Int32 → Int32 → zU → Option (Int32 × zU)
  | 0, _, _, _, _ => none
  | n + 1, x1, x2, x3, u =>
    if (8 : Int32) ≤ x3 then (f_X11_count_159 5000 x1 x2 (0 : Int32) u) else (if x1 = (10 : Int32) then (if z_in ((17 : Int32) + x3) 705 = true then (z_let (u 1 ((17 : Int32) + x3).toNatClampNeg) (fun z9 => if z9 = 0 then (z_let (x2 ||| ((1 : Int32) <<< (x3 &&& 31))) (fun z11 => f_X11_count_117 n x1 z11 (x3 + (1 : Int32)) u)) else (z_let (x2 ||| (0 : Int32)) (fun z10 => f_X11_count_117 n x1 z10 (x3 + (1 : Int32)) u)))) else none) else (f_X11_count_159 5000 x1 x2 (0 : Int32) u))
theorem f_X11_count_117_s (n : Nat) (x1 : Int32) (x2 : Int32) (x3 : Int32) (u : zU) : f_X11_count_117 (n + 1) x1 x2 x3 u = if (8 : Int32) ≤ x3 then (f_X11_count_159 5000 x1 x2 (0 : Int32) u) else (if x1 = (10 : Int32) then (if z_in ((17 : Int32) + x3) 705 = true then (z_let (u 1 ((17 : Int32) + x3).toNatClampNeg) (fun z9 => if z9 = 0 then (z_let (x2 ||| ((1 : Int32) <<< (x3 &&& 31))) (fun z11 => f_X11_count_117 n x1 z11 (x3 + (1 : Int32)) u)) else (z_let (x2 ||| (0 : Int32)) (fun z10 => f_X11_count_117 n x1 z10 (x3 + (1 : Int32)) u)))) else none) else (f_X11_count_159 5000 x1 x2 (0 : Int32) u)) := rfl
def f_X11_count (a1 : Int32) (u : zU) : Option (Int32 × zU) :=
  z_let (z_up u 0 0 (0 : Int32)) (fun u1 => if a1 = 0 then (some (u1 1 3, u1)) else (if a1 = (1 : Int32) then (some (u1 1 0, u1)) else (if a1 = (2 : Int32) then (some (u1 1 1, u1)) else (if a1 = (3 : Int32) then (some (u1 1 9, u1)) else (z_let (f_X11_isIn a1 (4 : Int32) (8 : Int32) u1) (fun t2 => if t2 = true then (if z_in (((4 : Int32) + a1) - (4 : Int32)) 705 = true then (z_let (u1 1 (((4 : Int32) + a1) - (4 : Int32)).toNatClampNeg) (fun z12 => some (z12, u1))) else none) else (if a1 = (9 : Int32) then (some (u1 1 10, u1)) else (if a1 = (13 : Int32) then (some (u1 1 11, u1)) else (if a1 = (14 : Int32) then (some (u1 0 6, u1)) else (f_X11_count_117 5000 a1 (0 : Int32) (0 : Int32) u1))))))))))
set_option maxRecDepth 100000 in
set_option maxHeartbeats 4000000 in
theorem l_X11_count_192 {l : Launch} {D : zD} {A : Nat → Prop} {b : Nat} {p : Program} {e : Env} {s : State} {m : MethodId} {args : Array Value} {below : List Frame} {meth : Method} {c : Code} {v : Int32} {u' : zU} (C0 : z_C p c cX11_count s m args yX11_count.cls D A) (hr : meth.sig.returnType = (some .int)) (hml : c.maxLocals = 4) (hlk : meth.locks = false) : ∀ (n : Nat) (x1 : Int32) (x2 : Int32) (x3 : Int32) (u : zU) (H : Heap) (locs : List Loc) (ls : Array Slot), f_X11_count_192 n x1 x2 x3 u = some (v, u') → z_W D A b gM u H → va_S A s.heap H locs → lv_has ls 4 [(0, .ref (b + 0)), (1, .int x1), (2, .int x2), (3, .int x3)] → W p l e { frames := 1, cells := 0, slots := 0, locals := 22 } s m args below meth c H locs 0 0 (z_End D A b gM below args s (some (.int v)) u') (F0 m 192 ls []) := by
  have hx := C0.1
  have hb := C0.2.1
  intro n
  induction n with
  | zero => intro x1 x2 x3 u H locs ls h hW hS hl; cases h
  | succ n ih =>
    intro x1 x2 x3 u H locs ls h hW hS hl
    rw [f_X11_count_192_s] at h
    refine lv_iload_n hx hb dX11_count_192 rfl (lv_at hl 3 rfl) ?_
    refine lv_bipush (v := (8 : Int32)) hx hb dX11_count_193 (by decide) ?_
    refine lv_icmp_ge (tgt := 222) hx hb dX11_count_195 (by decide) (fun hc => ?_) (fun hc => ?_)
    · replace h := z_t h hc
      clear hc
      refine lv_iload_n hx hb dX11_count_222 rfl (lv_at hl 1 rfl) ?_
      refine lv_bipush (v := (10 : Int32)) hx hb dX11_count_223 (by decide) ?_
      refine lv_bipush (v := (12 : Int32)) hx hb dX11_count_225 (by decide) ?_
      obtain ⟨t3, hq⟩ : ∃ y, f_X11_isIn x1 (10 : Int32) (12 : Int32) u = y := ⟨_, rfl⟩
      replace h := z_lz h hq
      refine z_csi (As := [.int x1, .int (10 : Int32), .int (12 : Int32)]) C0 hml hl.1 hW hS (c_X11_isIn l D A b x1 (10 : Int32) (12 : Int32) u hq) ms_X11_45 ⟨Nat.le_of_ble_eq_true rfl, Nat.le_of_ble_eq_true rfl⟩ rfl rfl (Nat.le_of_ble_eq_true rfl) dX11_count_227 (fun H locs hW hS => ?_)
      clear hq
      refine z_ifeqZ C0 (tgt := 237) dX11_count_230 (by decide) (fun hc => ?_) (fun hc => ?_)
      · replace h := z_ff h hc
        clear hc
        refine lv_iconst (v := (-1 : Int32)) hx hb dX11_count_237 (by decide) ?_
        cases h
        exact z_iret C0 hr hlk hW hS dX11_count_238
      · replace h := z_t h hc
        clear hc
        refine lv_iload_n hx hb dX11_count_233 rfl (lv_at hl 2 rfl) ?_
        refine lv_goto (tgt := 238) hx hb dX11_count_234 (by decide) ?_
        cases h
        exact z_iret C0 hr hlk hW hS dX11_count_238
    · replace h := z_f h hc
      clear hc
      refine lv_iload_n hx hb dX11_count_198 rfl (lv_at hl 1 rfl) ?_
      refine lv_bipush (v := (12 : Int32)) hx hb dX11_count_199 (by decide) ?_
      refine lv_icmp_ne (tgt := 222) hx hb dX11_count_201 (by decide) (fun hc => ?_) (fun hc => ?_)
      · replace h := z_f h hc
        clear hc
        refine lv_iload_n hx hb dX11_count_222 rfl (lv_at hl 1 rfl) ?_
        refine lv_bipush (v := (10 : Int32)) hx hb dX11_count_223 (by decide) ?_
        refine lv_bipush (v := (12 : Int32)) hx hb dX11_count_225 (by decide) ?_
        obtain ⟨t4, hq⟩ : ∃ y, f_X11_isIn x1 (10 : Int32) (12 : Int32) u = y := ⟨_, rfl⟩
        replace h := z_lz h hq
        refine z_csi (As := [.int x1, .int (10 : Int32), .int (12 : Int32)]) C0 hml hl.1 hW hS (c_X11_isIn l D A b x1 (10 : Int32) (12 : Int32) u hq) ms_X11_45 ⟨Nat.le_of_ble_eq_true rfl, Nat.le_of_ble_eq_true rfl⟩ rfl rfl (Nat.le_of_ble_eq_true rfl) dX11_count_227 (fun H locs hW hS => ?_)
        clear hq
        refine z_ifeqZ C0 (tgt := 237) dX11_count_230 (by decide) (fun hc => ?_) (fun hc => ?_)
        · replace h := z_ff h hc
          clear hc
          refine lv_iconst (v := (-1 : Int32)) hx hb dX11_count_237 (by decide) ?_
          cases h
          exact z_iret C0 hr hlk hW hS dX11_count_238
        · replace h := z_t h hc
          clear hc
          refine lv_iload_n hx hb dX11_count_233 rfl (lv_at hl 2 rfl) ?_
          refine lv_goto (tgt := 238) hx hb dX11_count_234 (by decide) ?_
          cases h
          exact z_iret C0 hr hlk hW hS dX11_count_238
      · replace h := z_t h hc
        clear hc
        refine lv_iload_n hx hb dX11_count_204 rfl (lv_at hl 2 rfl) ?_
        refine lv_aload_n hx hb dX11_count_205 rfl (lv_at hl 0 rfl) ?_
        refine z_getr (o := 1) C0 hW fl_X11_7 rfl rfl rfl dX11_count_206 ?_
        refine lv_bipush (v := (17 : Int32)) hx hb dX11_count_209 (by decide) ?_
        refine lv_iload_n hx hb dX11_count_211 rfl (lv_at hl 3 rfl) ?_
        refine lv_iadd hx hb dX11_count_212 ?_
        replace h := z_if h
        obtain ⟨hin, h⟩ := h
        refine z_iald (n := 705) C0 hW rfl rfl hin rfl dX11_count_213 ?_
        clear hin
        refine lv_topi (fun z5 e1 => ?_)
        replace h := z_ly h e1
        clear e1
        refine lv_iadd hx hb dX11_count_214 ?_
        refine lv_topi (fun z6 e1 => ?_)
        replace h := z_ly h e1
        clear e1
        refine lv_istore_n (lv' := [(2, .int z6), (0, .ref (b + 0)), (1, .int x1), (3, .int x3)]) hx hb dX11_count_215 rfl hl (by decide) rfl (fun ls hl => ?_)
        refine lv_iinc (v := x3 + (1 : Int32)) (lv' := [(3, .int (x3 + (1 : Int32))), (2, .int z6), (0, .ref (b + 0)), (1, .int x1)]) hx hb dX11_count_216 hl (k := 3) rfl rfl (by decide) rfl (fun ls hl => ?_)
        refine lv_goto (tgt := 192) hx hb dX11_count_219 (by decide) ?_
        exact ih _ _ _ _ _ _ _ h hW hS (lv_sub hl [2, 3, 1, 0] rfl)
set_option maxRecDepth 100000 in
set_option maxHeartbeats 4000000 in
theorem l_X11_count_159 {l : Launch} {D : zD} {A : Nat → Prop} {b : Nat} {p : Program} {e : Env} {s : State} {m : MethodId} {args : Array Value} {below : List Frame} {meth : Method} {c : Code} {v : Int32} {u' : zU} (C0 : z_C p c cX11_count s m args yX11_count.cls D A) (hr : meth.sig.returnType = (some .int)) (hml : c.maxLocals = 4) (hlk : meth.locks = false) : ∀ (n : Nat) (x1 : Int32) (x2 : Int32) (x3 : Int32) (u : zU) (H : Heap) (locs : List Loc) (ls : Array Slot), f_X11_count_159 n x1 x2 x3 u = some (v, u') → z_W D A b gM u H → va_S A s.heap H locs → lv_has ls 4 [(0, .ref (b + 0)), (1, .int x1), (2, .int x2), (3, .int x3)] → W p l e { frames := 1, cells := 0, slots := 0, locals := 22 } s m args below meth c H locs 0 0 (z_End D A b gM below args s (some (.int v)) u') (F0 m 159 ls []) := by
  have hx := C0.1
  have hb := C0.2.1
  intro n
  induction n with
  | zero => intro x1 x2 x3 u H locs ls h hW hS hl; cases h
  | succ n ih =>
    intro x1 x2 x3 u H locs ls h hW hS hl
    rw [f_X11_count_159_s] at h
    refine lv_iload_n hx hb dX11_count_159 rfl (lv_at hl 3 rfl) ?_
    refine lv_aload_n hx hb dX11_count_160 rfl (lv_at hl 0 rfl) ?_
    refine z_getr (o := 1) C0 hW fl_X11_7 rfl rfl rfl dX11_count_161 ?_
    refine lv_iconst (v := (3 : Int32)) hx hb dX11_count_164 (by decide) ?_
    refine z_iald (k := 3) (n := 705) C0 hW rfl rfl (by decide) (by decide) dX11_count_165 ?_
    refine lv_icmp_ge (tgt := 190) hx hb dX11_count_166 (by decide) (fun hc => ?_) (fun hc => ?_)
    · replace h := z_t h hc
      clear hc
      refine lv_iconst (v := (0 : Int32)) hx hb dX11_count_190 (by decide) ?_
      refine lv_istore_n (lv' := [(3, .int (0 : Int32)), (0, .ref (b + 0)), (1, .int x1), (2, .int x2)]) hx hb dX11_count_191 rfl hl (by decide) rfl (fun ls hl => ?_)
      exact l_X11_count_192 C0 hr hml hlk 5000 _ _ _ _ _ _ _ h hW hS (lv_sub hl [1, 2, 3, 0] rfl)
    · replace h := z_f h hc
      clear hc
      refine lv_iload_n hx hb dX11_count_169 rfl (lv_at hl 1 rfl) ?_
      refine lv_bipush (v := (11 : Int32)) hx hb dX11_count_170 (by decide) ?_
      refine lv_icmp_ne (tgt := 190) hx hb dX11_count_172 (by decide) (fun hc => ?_) (fun hc => ?_)
      · replace h := z_f h hc
        clear hc
        refine lv_iconst (v := (0 : Int32)) hx hb dX11_count_190 (by decide) ?_
        refine lv_istore_n (lv' := [(3, .int (0 : Int32)), (0, .ref (b + 0)), (1, .int x1), (2, .int x2)]) hx hb dX11_count_191 rfl hl (by decide) rfl (fun ls hl => ?_)
        exact l_X11_count_192 C0 hr hml hlk 5000 _ _ _ _ _ _ _ h hW hS (lv_sub hl [1, 2, 3, 0] rfl)
      · replace h := z_t h hc
        clear hc
        refine lv_iload_n hx hb dX11_count_175 rfl (lv_at hl 2 rfl) ?_
        refine lv_aload_n hx hb dX11_count_176 rfl (lv_at hl 0 rfl) ?_
        refine lv_iload_n hx hb dX11_count_177 rfl (lv_at hl 3 rfl) ?_
        refine lv_iconst (v := (2 : Int32)) hx hb dX11_count_178 (by decide) ?_
        replace h := z_bd h
        obtain ⟨r7, hq, h⟩ := h
        refine z_cvi (As := [.int x3, .int (2 : Int32)]) C0 hml hl.1 hW hS (c_X11_of l D A b x3 (2 : Int32) u hq) mv_X11_49 rfl ⟨Nat.le_of_ble_eq_true rfl, Nat.le_of_ble_eq_true rfl⟩ rfl rfl (Nat.le_of_ble_eq_true rfl) dX11_count_179 (fun H locs hW hS => ?_)
        clear hq
        refine lv_iadd hx hb dX11_count_182 ?_
        refine lv_topi (fun z8 e1 => ?_)
        replace h := z_ly h e1
        clear e1
        refine lv_istore_n (lv' := [(2, .int z8), (0, .ref (b + 0)), (1, .int x1), (3, .int x3)]) hx hb dX11_count_183 rfl hl (by decide) rfl (fun ls hl => ?_)
        refine lv_iinc (v := x3 + (1 : Int32)) (lv' := [(3, .int (x3 + (1 : Int32))), (2, .int z8), (0, .ref (b + 0)), (1, .int x1)]) hx hb dX11_count_184 hl (k := 3) rfl rfl (by decide) rfl (fun ls hl => ?_)
        refine lv_goto (tgt := 159) hx hb dX11_count_187 (by decide) ?_
        exact ih _ _ _ _ _ _ _ h hW hS (lv_sub hl [2, 3, 1, 0] rfl)
set_option maxRecDepth 100000 in
set_option maxHeartbeats 4000000 in
theorem l_X11_count_117 {l : Launch} {D : zD} {A : Nat → Prop} {b : Nat} {p : Program} {e : Env} {s : State} {m : MethodId} {args : Array Value} {below : List Frame} {meth : Method} {c : Code} {v : Int32} {u' : zU} (C0 : z_C p c cX11_count s m args yX11_count.cls D A) (hr : meth.sig.returnType = (some .int)) (hml : c.maxLocals = 4) (hlk : meth.locks = false) : ∀ (n : Nat) (x1 : Int32) (x2 : Int32) (x3 : Int32) (u : zU) (H : Heap) (locs : List Loc) (ls : Array Slot), f_X11_count_117 n x1 x2 x3 u = some (v, u') → z_W D A b gM u H → va_S A s.heap H locs → lv_has ls 4 [(0, .ref (b + 0)), (1, .int x1), (2, .int x2), (3, .int x3)] → W p l e { frames := 1, cells := 0, slots := 0, locals := 22 } s m args below meth c H locs 0 0 (z_End D A b gM below args s (some (.int v)) u') (F0 m 117 ls []) := by
  have hx := C0.1
  have hb := C0.2.1
  intro n
  induction n with
  | zero => intro x1 x2 x3 u H locs ls h hW hS hl; cases h
  | succ n ih =>
    intro x1 x2 x3 u H locs ls h hW hS hl
    rw [f_X11_count_117_s] at h
    refine lv_iload_n hx hb dX11_count_117 rfl (lv_at hl 3 rfl) ?_
    refine lv_bipush (v := (8 : Int32)) hx hb dX11_count_118 (by decide) ?_
    refine lv_icmp_ge (tgt := 157) hx hb dX11_count_120 (by decide) (fun hc => ?_) (fun hc => ?_)
    · replace h := z_t h hc
      clear hc
      refine lv_iconst (v := (0 : Int32)) hx hb dX11_count_157 (by decide) ?_
      refine lv_istore_n (lv' := [(3, .int (0 : Int32)), (0, .ref (b + 0)), (1, .int x1), (2, .int x2)]) hx hb dX11_count_158 rfl hl (by decide) rfl (fun ls hl => ?_)
      exact l_X11_count_159 C0 hr hml hlk 5000 _ _ _ _ _ _ _ h hW hS (lv_sub hl [1, 2, 3, 0] rfl)
    · replace h := z_f h hc
      clear hc
      refine lv_iload_n hx hb dX11_count_123 rfl (lv_at hl 1 rfl) ?_
      refine lv_bipush (v := (10 : Int32)) hx hb dX11_count_124 (by decide) ?_
      refine lv_icmp_ne (tgt := 157) hx hb dX11_count_126 (by decide) (fun hc => ?_) (fun hc => ?_)
      · replace h := z_f h hc
        clear hc
        refine lv_iconst (v := (0 : Int32)) hx hb dX11_count_157 (by decide) ?_
        refine lv_istore_n (lv' := [(3, .int (0 : Int32)), (0, .ref (b + 0)), (1, .int x1), (2, .int x2)]) hx hb dX11_count_158 rfl hl (by decide) rfl (fun ls hl => ?_)
        exact l_X11_count_159 C0 hr hml hlk 5000 _ _ _ _ _ _ _ h hW hS (lv_sub hl [1, 2, 3, 0] rfl)
      · replace h := z_t h hc
        clear hc
        refine lv_iload_n hx hb dX11_count_129 rfl (lv_at hl 2 rfl) ?_
        refine lv_aload_n hx hb dX11_count_130 rfl (lv_at hl 0 rfl) ?_
        refine z_getr (o := 1) C0 hW fl_X11_7 rfl rfl rfl dX11_count_131 ?_
        refine lv_bipush (v := (17 : Int32)) hx hb dX11_count_134 (by decide) ?_
        refine lv_iload_n hx hb dX11_count_136 rfl (lv_at hl 3 rfl) ?_
        refine lv_iadd hx hb dX11_count_137 ?_
        replace h := z_if h
        obtain ⟨hin, h⟩ := h
        refine z_iald (n := 705) C0 hW rfl rfl hin rfl dX11_count_138 ?_
        clear hin
        refine lv_topi (fun z9 e1 => ?_)
        replace h := z_ly h e1
        clear e1
        refine lv_if_ne (tgt := 148) hx hb dX11_count_139 (by decide) (fun hc => ?_) (fun hc => ?_)
        · replace h := z_f h hc
          clear hc
          refine lv_iconst (v := (0 : Int32)) hx hb dX11_count_148 (by decide) ?_
          refine lv_ior hx hb dX11_count_149 ?_
          refine lv_topi (fun z10 e1 => ?_)
          replace h := z_ly h e1
          clear e1
          refine lv_istore_n (lv' := [(2, .int z10), (0, .ref (b + 0)), (1, .int x1), (3, .int x3)]) hx hb dX11_count_150 rfl hl (by decide) rfl (fun ls hl => ?_)
          refine lv_iinc (v := x3 + (1 : Int32)) (lv' := [(3, .int (x3 + (1 : Int32))), (2, .int z10), (0, .ref (b + 0)), (1, .int x1)]) hx hb dX11_count_151 hl (k := 3) rfl rfl (by decide) rfl (fun ls hl => ?_)
          refine lv_goto (tgt := 117) hx hb dX11_count_154 (by decide) ?_
          exact ih _ _ _ _ _ _ _ h hW hS (lv_sub hl [2, 3, 1, 0] rfl)
        · replace h := z_t h hc
          clear hc
          refine lv_iconst (v := (1 : Int32)) hx hb dX11_count_142 (by decide) ?_
          refine lv_iload_n hx hb dX11_count_143 rfl (lv_at hl 3 rfl) ?_
          refine lv_ishl hx hb dX11_count_144 ?_
          refine lv_goto (tgt := 149) hx hb dX11_count_145 (by decide) ?_
          refine lv_ior hx hb dX11_count_149 ?_
          refine lv_topi (fun z11 e1 => ?_)
          replace h := z_ly h e1
          clear e1
          refine lv_istore_n (lv' := [(2, .int z11), (0, .ref (b + 0)), (1, .int x1), (3, .int x3)]) hx hb dX11_count_150 rfl hl (by decide) rfl (fun ls hl => ?_)
          refine lv_iinc (v := x3 + (1 : Int32)) (lv' := [(3, .int (x3 + (1 : Int32))), (2, .int z11), (0, .ref (b + 0)), (1, .int x1)]) hx hb dX11_count_151 hl (k := 3) rfl rfl (by decide) rfl (fun ls hl => ?_)
          refine lv_goto (tgt := 117) hx hb dX11_count_154 (by decide) ?_
          exact ih _ _ _ _ _ _ _ h hW hS (lv_sub hl [2, 3, 1, 0] rfl)
theorem f_X11_count_e (a1 : Int32) (u : zU) : f_X11_count a1 u = z_let (z_up u 0 0 (0 : Int32)) (fun u1 => if a1 = 0 then (some (u1 1 3, u1)) else (if a1 = (1 : Int32) then (some (u1 1 0, u1)) else (if a1 = (2 : Int32) then (some (u1 1 1, u1)) else (if a1 = (3 : Int32) then (some (u1 1 9, u1)) else (z_let (f_X11_isIn a1 (4 : Int32) (8 : Int32) u1) (fun t2 => if t2 = true then (if z_in (((4 : Int32) + a1) - (4 : Int32)) 705 = true then (z_let (u1 1 (((4 : Int32) + a1) - (4 : Int32)).toNatClampNeg) (fun z12 => some (z12, u1))) else none) else (if a1 = (9 : Int32) then (some (u1 1 10, u1)) else (if a1 = (13 : Int32) then (some (u1 1 11, u1)) else (if a1 = (14 : Int32) then (some (u1 0 6, u1)) else (f_X11_count_117 5000 a1 (0 : Int32) (0 : Int32) u1)))))))))) := rfl
set_option maxRecDepth 100000 in
set_option maxHeartbeats 4000000 in
theorem c_X11_count (l : Launch) (D : zD) (A : Nat → Prop) (b : Nat) (a1 : Int32) (u : zU) {v : Int32} {u' : zU} (h : f_X11_count a1 u = some (v, u')) : z_M l D A b gM yX11_count cX11_count 4 (some .int) 1 22 [.ref (b + 0), .int a1] u (some (.int v)) u' := by
  refine z_enter (by decide) (Nat.le_of_ble_eq_true rfl) ?_
  intro p e s m below meth c ls C0 hr hml hlk hW hS hl
  have hl : lv_has ls 4 [(0, .ref (b + 0)), (1, .int a1)] := hl
  have hx := C0.1
  have hb := C0.2.1
  rw [f_X11_count_e] at h
  refine lv_aload_n hx hb dX11_count_0 rfl (lv_at hl 0 rfl) ?_
  refine lv_iconst (v := (0 : Int32)) hx hb dX11_count_1 (by decide) ?_
  refine z_puti C0 hW hS fl_X11_42 rfl rfl rfl rfl dX11_count_2 (fun H locs u1 e1 hW hS => ?_)
  replace h := z_ly h e1
  clear e1
  refine lv_iload_n hx hb dX11_count_5 rfl (lv_at hl 1 rfl) ?_
  refine lv_if_ne (tgt := 16) hx hb dX11_count_6 (by decide) (fun hc => ?_) (fun hc => ?_)
  · replace h := z_f h hc
    clear hc
    refine lv_iload_n hx hb dX11_count_16 rfl (lv_at hl 1 rfl) ?_
    refine lv_iconst (v := (1 : Int32)) hx hb dX11_count_17 (by decide) ?_
    refine lv_icmp_ne (tgt := 28) hx hb dX11_count_18 (by decide) (fun hc => ?_) (fun hc => ?_)
    · replace h := z_f h hc
      clear hc
      refine lv_iload_n hx hb dX11_count_28 rfl (lv_at hl 1 rfl) ?_
      refine lv_iconst (v := (2 : Int32)) hx hb dX11_count_29 (by decide) ?_
      refine lv_icmp_ne (tgt := 40) hx hb dX11_count_30 (by decide) (fun hc => ?_) (fun hc => ?_)
      · replace h := z_f h hc
        clear hc
        refine lv_iload_n hx hb dX11_count_40 rfl (lv_at hl 1 rfl) ?_
        refine lv_iconst (v := (3 : Int32)) hx hb dX11_count_41 (by decide) ?_
        refine lv_icmp_ne (tgt := 53) hx hb dX11_count_42 (by decide) (fun hc => ?_) (fun hc => ?_)
        · replace h := z_f h hc
          clear hc
          refine lv_iload_n hx hb dX11_count_53 rfl (lv_at hl 1 rfl) ?_
          refine lv_iconst (v := (4 : Int32)) hx hb dX11_count_54 (by decide) ?_
          refine lv_bipush (v := (8 : Int32)) hx hb dX11_count_55 (by decide) ?_
          obtain ⟨t2, hq⟩ : ∃ y, f_X11_isIn a1 (4 : Int32) (8 : Int32) u1 = y := ⟨_, rfl⟩
          replace h := z_lz h hq
          refine z_csi (As := [.int a1, .int (4 : Int32), .int (8 : Int32)]) C0 hml hl.1 hW hS (c_X11_isIn l D A b a1 (4 : Int32) (8 : Int32) u1 hq) ms_X11_45 ⟨Nat.le_of_ble_eq_true rfl, Nat.le_of_ble_eq_true rfl⟩ rfl rfl (Nat.le_of_ble_eq_true rfl) dX11_count_57 (fun H locs hW hS => ?_)
          clear hq
          refine z_ifeqZ C0 (tgt := 74) dX11_count_60 (by decide) (fun hc => ?_) (fun hc => ?_)
          · replace h := z_ff h hc
            clear hc
            refine lv_iload_n hx hb dX11_count_74 rfl (lv_at hl 1 rfl) ?_
            refine lv_bipush (v := (9 : Int32)) hx hb dX11_count_75 (by decide) ?_
            refine lv_icmp_ne (tgt := 88) hx hb dX11_count_77 (by decide) (fun hc => ?_) (fun hc => ?_)
            · replace h := z_f h hc
              clear hc
              refine lv_iload_n hx hb dX11_count_88 rfl (lv_at hl 1 rfl) ?_
              refine lv_bipush (v := (13 : Int32)) hx hb dX11_count_89 (by decide) ?_
              refine lv_icmp_ne (tgt := 102) hx hb dX11_count_91 (by decide) (fun hc => ?_) (fun hc => ?_)
              · replace h := z_f h hc
                clear hc
                refine lv_iload_n hx hb dX11_count_102 rfl (lv_at hl 1 rfl) ?_
                refine lv_bipush (v := (14 : Int32)) hx hb dX11_count_103 (by decide) ?_
                refine lv_icmp_ne (tgt := 113) hx hb dX11_count_105 (by decide) (fun hc => ?_) (fun hc => ?_)
                · replace h := z_f h hc
                  clear hc
                  refine lv_iconst (v := (0 : Int32)) hx hb dX11_count_113 (by decide) ?_
                  refine lv_istore_n (lv' := [(2, .int (0 : Int32)), (0, .ref (b + 0)), (1, .int a1)]) hx hb dX11_count_114 rfl hl (by decide) rfl (fun ls hl => ?_)
                  refine lv_iconst (v := (0 : Int32)) hx hb dX11_count_115 (by decide) ?_
                  refine lv_istore_n (lv' := [(3, .int (0 : Int32)), (2, .int (0 : Int32)), (0, .ref (b + 0)), (1, .int a1)]) hx hb dX11_count_116 rfl hl (by decide) rfl (fun ls hl => ?_)
                  exact l_X11_count_117 C0 hr hml hlk 5000 _ _ _ _ _ _ _ h hW hS (lv_sub hl [2, 3, 1, 0] rfl)
                · replace h := z_t h hc
                  clear hc
                  refine lv_aload_n hx hb dX11_count_108 rfl (lv_at hl 0 rfl) ?_
                  refine z_geti C0 hW fl_X11_182 rfl rfl dX11_count_109 ?_
                  cases h
                  exact z_iret C0 hr hlk hW hS dX11_count_112
              · replace h := z_t h hc
                clear hc
                refine lv_aload_n hx hb dX11_count_94 rfl (lv_at hl 0 rfl) ?_
                refine z_getr (o := 1) C0 hW fl_X11_7 rfl rfl rfl dX11_count_95 ?_
                refine lv_bipush (v := (11 : Int32)) hx hb dX11_count_98 (by decide) ?_
                refine z_iald (k := 11) (n := 705) C0 hW rfl rfl (by decide) (by decide) dX11_count_100 ?_
                cases h
                exact z_iret C0 hr hlk hW hS dX11_count_101
            · replace h := z_t h hc
              clear hc
              refine lv_aload_n hx hb dX11_count_80 rfl (lv_at hl 0 rfl) ?_
              refine z_getr (o := 1) C0 hW fl_X11_7 rfl rfl rfl dX11_count_81 ?_
              refine lv_bipush (v := (10 : Int32)) hx hb dX11_count_84 (by decide) ?_
              refine z_iald (k := 10) (n := 705) C0 hW rfl rfl (by decide) (by decide) dX11_count_86 ?_
              cases h
              exact z_iret C0 hr hlk hW hS dX11_count_87
          · replace h := z_t h hc
            clear hc
            refine lv_aload_n hx hb dX11_count_63 rfl (lv_at hl 0 rfl) ?_
            refine z_getr (o := 1) C0 hW fl_X11_7 rfl rfl rfl dX11_count_64 ?_
            refine lv_iconst (v := (4 : Int32)) hx hb dX11_count_67 (by decide) ?_
            refine lv_iload_n hx hb dX11_count_68 rfl (lv_at hl 1 rfl) ?_
            refine lv_iadd hx hb dX11_count_69 ?_
            refine lv_iconst (v := (4 : Int32)) hx hb dX11_count_70 (by decide) ?_
            refine lv_isub hx hb dX11_count_71 ?_
            replace h := z_if h
            obtain ⟨hin, h⟩ := h
            refine z_iald (n := 705) C0 hW rfl rfl hin rfl dX11_count_72 ?_
            clear hin
            refine lv_topi (fun z12 e1 => ?_)
            replace h := z_ly h e1
            clear e1
            cases h
            exact z_iret C0 hr hlk hW hS dX11_count_73
        · replace h := z_t h hc
          clear hc
          refine lv_aload_n hx hb dX11_count_45 rfl (lv_at hl 0 rfl) ?_
          refine z_getr (o := 1) C0 hW fl_X11_7 rfl rfl rfl dX11_count_46 ?_
          refine lv_bipush (v := (9 : Int32)) hx hb dX11_count_49 (by decide) ?_
          refine z_iald (k := 9) (n := 705) C0 hW rfl rfl (by decide) (by decide) dX11_count_51 ?_
          cases h
          exact z_iret C0 hr hlk hW hS dX11_count_52
      · replace h := z_t h hc
        clear hc
        refine lv_aload_n hx hb dX11_count_33 rfl (lv_at hl 0 rfl) ?_
        refine z_getr (o := 1) C0 hW fl_X11_7 rfl rfl rfl dX11_count_34 ?_
        refine lv_iconst (v := (1 : Int32)) hx hb dX11_count_37 (by decide) ?_
        refine z_iald (k := 1) (n := 705) C0 hW rfl rfl (by decide) (by decide) dX11_count_38 ?_
        cases h
        exact z_iret C0 hr hlk hW hS dX11_count_39
    · replace h := z_t h hc
      clear hc
      refine lv_aload_n hx hb dX11_count_21 rfl (lv_at hl 0 rfl) ?_
      refine z_getr (o := 1) C0 hW fl_X11_7 rfl rfl rfl dX11_count_22 ?_
      refine lv_iconst (v := (0 : Int32)) hx hb dX11_count_25 (by decide) ?_
      refine z_iald (k := 0) (n := 705) C0 hW rfl rfl (by decide) (by decide) dX11_count_26 ?_
      cases h
      exact z_iret C0 hr hlk hW hS dX11_count_27
  · replace h := z_t h hc
    clear hc
    refine lv_aload_n hx hb dX11_count_9 rfl (lv_at hl 0 rfl) ?_
    refine z_getr (o := 1) C0 hW fl_X11_7 rfl rfl rfl dX11_count_10 ?_
    refine lv_iconst (v := (3 : Int32)) hx hb dX11_count_13 (by decide) ?_
    refine z_iald (k := 3) (n := 705) C0 hW rfl rfl (by decide) (by decide) dX11_count_14 ?_
    cases h
    exact z_iret C0 hr hlk hW hS dX11_count_15
def f_X11_every_5 (KA : zU → Option (Bool × zU)) : Nat → Int32 → zU → Option (Bool × zU)
  | 0, _, _ => none
  | n + 1, x1, u =>
    if (u 0 12) = (-1 : Int32) then (z_b2 (f_X11_has 34 u) (fun t4 u5 => if t4 = true then (z_b2 (KA u5) (fun t7 u8 => if x1 = 0 then (f_X11_every_5 KA n (0 : Int32) u8) else (if (bI t7) = 0 then (f_X11_every_5 KA n (0 : Int32) u8) else (f_X11_every_5 KA n (1 : Int32) u8)))) else ((z_b01 x1).bind (fun t6 => some (t6, u5))))) else ((z_b01 x1).bind (fun t3 => some (t3, u)))
theorem f_X11_every_5_s (KA : zU → Option (Bool × zU)) (n : Nat) (x1 : Int32) (u : zU) : f_X11_every_5 KA (n + 1) x1 u = if (u 0 12) = (-1 : Int32) then (z_b2 (f_X11_has 34 u) (fun t4 u5 => if t4 = true then (z_b2 (KA u5) (fun t7 u8 => if x1 = 0 then (f_X11_every_5 KA n (0 : Int32) u8) else (if (bI t7) = 0 then (f_X11_every_5 KA n (0 : Int32) u8) else (f_X11_every_5 KA n (1 : Int32) u8)))) else ((z_b01 x1).bind (fun t6 => some (t6, u5))))) else ((z_b01 x1).bind (fun t3 => some (t3, u))) := rfl
def f_X11_every (KA : zU → Option (Bool × zU))  (u : zU) : Option (Bool × zU) :=
  z_b2 (KA u) (fun t1 u2 => f_X11_every_5 KA 5000 (bI t1) u2)
set_option maxRecDepth 100000 in
set_option maxHeartbeats 4000000 in
theorem l_X11_every_5 {l : Launch} {D : zD} {A : Nat → Prop} {b : Nat} {p : Program} {e : Env} {s : State} {m : MethodId} {args : Array Value} {below : List Frame} {meth : Method} {c : Code} {v : Bool} {u' : zU} (C0 : z_C p c cX11_every s m args yX11_every.cls D A) (hr : meth.sig.returnType = (some .boolean)) (hml : c.maxLocals = 3) (hlk : meth.locks = false) {fr lo : Nat} (hfr : 12 ≤ fr) (hlo : 400 ≤ lo) {KA : zU → Option (Bool × zU)} (hA : ∀ (u : zU) (v : Bool) (u' : zU), KA u = some (v, u') → z_M l D A b gM yX11_atom cX11_atom 4 (some .boolean) fr lo [.ref (b + 0)] u (some (.int (bI v))) u') : ∀ (n : Nat) (x1 : Int32) (u : zU) (H : Heap) (locs : List Loc) (ls : Array Slot), f_X11_every_5 KA n x1 u = some (v, u') → z_W D A b gM u H → va_S A s.heap H locs → lv_has ls 3 [(0, .ref (b + 0)), (1, .int x1)] → W p l e { frames := fr + 1, cells := 0, slots := 0, locals := lo + 30 } s m args below meth c H locs 0 0 (z_End D A b gM below args s (some (.int (bI v))) u') (F0 m 5 ls []) := by
  have hx := C0.1
  have hb := C0.2.1
  intro n
  induction n with
  | zero => intro x1 u H locs ls h hW hS hl; cases h
  | succ n ih =>
    intro x1 u H locs ls h hW hS hl
    rw [f_X11_every_5_s] at h
    refine lv_aload_n hx hb dX11_every_5 rfl (lv_at hl 0 rfl) ?_
    refine z_geti C0 hW fl_X11_25 rfl rfl dX11_every_6 ?_
    refine lv_iconst (v := (-1 : Int32)) hx hb dX11_every_9 (by decide) ?_
    refine lv_icmp_ne (tgt := 44) hx hb dX11_every_10 (by decide) (fun hc => ?_) (fun hc => ?_)
    · replace h := z_f h hc
      clear hc
      refine lv_iload_n hx hb dX11_every_44 rfl (lv_at hl 1 rfl) ?_
      replace h := z_bd h
      obtain ⟨t3, hq, h⟩ := h
      refine z_as (z_b01_eq hq) ?_
      cases h
      exact z_zret C0 hr hlk hW hS dX11_every_45
    · replace h := z_t h hc
      clear hc
      refine lv_aload_n hx hb dX11_every_13 rfl (lv_at hl 0 rfl) ?_
      refine z_ldcS (k := 34) (tx := "and") C0 (List.mem_of_getElem? (i := 68) rfl) dX11_every_14 ?_
      replace h := z_bd2 h
      obtain ⟨t4, u5, hq, h⟩ := h
      refine z_cvi (As := [.ref (sA D 34)]) C0 hml hl.1 hW hS (c_X11_has l D A b 34 (by decide) u hq) mv_X11_108 rfl ⟨(show 4 + 1 ≤ fr + 1 by omega), (show 8 + (4 + 11) + (85) ≤ lo + 30 by omega)⟩ rfl rfl (Nat.le_of_ble_eq_true rfl) dX11_every_16 (fun H locs hW hS => ?_)
      clear hq
      refine z_ifeqZ C0 (tgt := 44) dX11_every_19 (by decide) (fun hc => ?_) (fun hc => ?_)
      · replace h := z_ff h hc
        clear hc
        refine lv_iload_n hx hb dX11_every_44 rfl (lv_at hl 1 rfl) ?_
        replace h := z_bd h
        obtain ⟨t6, hq, h⟩ := h
        refine z_as (z_b01_eq hq) ?_
        cases h
        exact z_zret C0 hr hlk hW hS dX11_every_45
      · replace h := z_t h hc
        clear hc
        refine lv_aload_n hx hb dX11_every_22 rfl (lv_at hl 0 rfl) ?_
        replace h := z_bd2 h
        obtain ⟨t7, u8, hq, h⟩ := h
        refine z_cvi (As := []) C0 hml hl.1 hW hS (hA _ _ _ hq) mv_X11_214 rfl ⟨(show fr + 1 ≤ fr + 1 by omega), (show 8 + (4 + 11) + (lo) ≤ lo + 30 by omega)⟩ rfl rfl (Nat.le_of_ble_eq_true rfl) dX11_every_23 (fun H locs hW hS => ?_)
        clear hq
        refine lv_istore_n (lv' := [(2, .int (bI t7)), (0, .ref (b + 0)), (1, .int x1)]) hx hb dX11_every_26 rfl hl (by decide) rfl (fun ls hl => ?_)
        refine lv_iload_n hx hb dX11_every_27 rfl (lv_at hl 2 rfl) ?_
        refine lv_if_eq (tgt := 39) hx hb dX11_every_28 (by decide) (fun hc => ?_) (fun hc => ?_)
        · replace h := z_t h hc
          clear hc
          refine lv_iconst (v := (0 : Int32)) hx hb dX11_every_39 (by decide) ?_
          refine lv_istore_n (lv' := [(1, .int (0 : Int32)), (2, .int (bI t7)), (0, .ref (b + 0))]) hx hb dX11_every_40 rfl hl (by decide) rfl (fun ls hl => ?_)
          refine lv_goto (tgt := 5) hx hb dX11_every_41 (by decide) ?_
          exact ih _ _ _ _ _ h hW hS (lv_sub hl [2, 0] rfl)
        · replace h := z_f h hc
          clear hc
          refine lv_iload_n hx hb dX11_every_31 rfl (lv_at hl 0 rfl) ?_
          refine lv_if_eq (tgt := 39) hx hb dX11_every_32 (by decide) (fun hc => ?_) (fun hc => ?_)
          · replace h := z_t h hc
            clear hc
            refine lv_iconst (v := (0 : Int32)) hx hb dX11_every_39 (by decide) ?_
            refine lv_istore_n (lv' := [(1, .int (0 : Int32)), (2, .int (bI t7)), (0, .ref (b + 0))]) hx hb dX11_every_40 rfl hl (by decide) rfl (fun ls hl => ?_)
            refine lv_goto (tgt := 5) hx hb dX11_every_41 (by decide) ?_
            exact ih _ _ _ _ _ h hW hS (lv_sub hl [2, 0] rfl)
          · replace h := z_f h hc
            clear hc
            refine lv_iconst (v := (1 : Int32)) hx hb dX11_every_35 (by decide) ?_
            refine lv_goto (tgt := 40) hx hb dX11_every_36 (by decide) ?_
            refine lv_istore_n (lv' := [(1, .int (1 : Int32)), (2, .int (bI t7)), (0, .ref (b + 0))]) hx hb dX11_every_40 rfl hl (by decide) rfl (fun ls hl => ?_)
            refine lv_goto (tgt := 5) hx hb dX11_every_41 (by decide) ?_
            exact ih _ _ _ _ _ h hW hS (lv_sub hl [2, 0] rfl)
theorem f_X11_every_e (KA : zU → Option (Bool × zU))  (u : zU) : f_X11_every KA u = z_b2 (KA u) (fun t1 u2 => f_X11_every_5 KA 5000 (bI t1) u2) := rfl
set_option maxRecDepth 100000 in
set_option maxHeartbeats 4000000 in
theorem c_X11_every (l : Launch) (D : zD) (A : Nat → Prop) (b : Nat) {fr lo : Nat} (hfr : 12 ≤ fr) (hlo : 400 ≤ lo) {KA : zU → Option (Bool × zU)} (hA : ∀ (u : zU) (v : Bool) (u' : zU), KA u = some (v, u') → z_M l D A b gM yX11_atom cX11_atom 4 (some .boolean) fr lo [.ref (b + 0)] u (some (.int (bI v))) u')  (u : zU) {v : Bool} {u' : zU} (h : f_X11_every KA u = some (v, u')) : z_M l D A b gM yX11_every cX11_every 3 (some .boolean) (fr + 1) (lo + 30) [.ref (b + 0)] u (some (.int (bI v))) u' := by
  refine z_enter (by decide) (Nat.le_of_ble_eq_true rfl) ?_
  intro p e s m below meth c ls C0 hr hml hlk hW hS hl
  have hl : lv_has ls 3 [(0, .ref (b + 0))] := hl
  have hx := C0.1
  have hb := C0.2.1
  rw [f_X11_every_e] at h
  refine lv_aload_n hx hb dX11_every_0 rfl (lv_at hl 0 rfl) ?_
  replace h := z_bd2 h
  obtain ⟨t1, u2, hq, h⟩ := h
  refine z_cvi (As := []) C0 hml hl.1 hW hS (hA _ _ _ hq) mv_X11_214 rfl ⟨(show fr + 1 ≤ fr + 1 by omega), (show 8 + (4 + 11) + (lo) ≤ lo + 30 by omega)⟩ rfl rfl (Nat.le_of_ble_eq_true rfl) dX11_every_1 (fun H locs hW hS => ?_)
  clear hq
  refine lv_istore_n (lv' := [(1, .int (bI t1)), (0, .ref (b + 0))]) hx hb dX11_every_4 rfl hl (by decide) rfl (fun ls hl => ?_)
  exact l_X11_every_5 C0 hr hml hlk hfr hlo hA 5000 _ _ _ _ _ h hW hS (lv_sub hl [1, 0] rfl)
def f_X11_some_5 (KA : zU → Option (Bool × zU)) : Nat → Int32 → zU → Option (Bool × zU)
  | 0, _, _ => none
  | n + 1, x1, u =>
    if (u 0 12) = (-1 : Int32) then (z_b2 (f_X11_has 33 u) (fun t4 u5 => if t4 = true then (z_b2 (f_X11_every KA u5) (fun t7 u8 => if x1 = 0 then (if (bI t7) = 0 then (f_X11_some_5 KA n (0 : Int32) u8) else (f_X11_some_5 KA n (1 : Int32) u8)) else (f_X11_some_5 KA n (1 : Int32) u8))) else ((z_b01 x1).bind (fun t6 => some (t6, u5))))) else ((z_b01 x1).bind (fun t3 => some (t3, u)))
theorem f_X11_some_5_s (KA : zU → Option (Bool × zU)) (n : Nat) (x1 : Int32) (u : zU) : f_X11_some_5 KA (n + 1) x1 u = if (u 0 12) = (-1 : Int32) then (z_b2 (f_X11_has 33 u) (fun t4 u5 => if t4 = true then (z_b2 (f_X11_every KA u5) (fun t7 u8 => if x1 = 0 then (if (bI t7) = 0 then (f_X11_some_5 KA n (0 : Int32) u8) else (f_X11_some_5 KA n (1 : Int32) u8)) else (f_X11_some_5 KA n (1 : Int32) u8))) else ((z_b01 x1).bind (fun t6 => some (t6, u5))))) else ((z_b01 x1).bind (fun t3 => some (t3, u))) := rfl
def f_X11_some (KA : zU → Option (Bool × zU))  (u : zU) : Option (Bool × zU) :=
  z_b2 (f_X11_every KA u) (fun t1 u2 => f_X11_some_5 KA 5000 (bI t1) u2)
set_option maxRecDepth 100000 in
set_option maxHeartbeats 4000000 in
theorem l_X11_some_5 {l : Launch} {D : zD} {A : Nat → Prop} {b : Nat} {p : Program} {e : Env} {s : State} {m : MethodId} {args : Array Value} {below : List Frame} {meth : Method} {c : Code} {v : Bool} {u' : zU} (C0 : z_C p c cX11_some s m args yX11_some.cls D A) (hr : meth.sig.returnType = (some .boolean)) (hml : c.maxLocals = 3) (hlk : meth.locks = false) {fr lo : Nat} (hfr : 12 ≤ fr) (hlo : 400 ≤ lo) {KA : zU → Option (Bool × zU)} (hA : ∀ (u : zU) (v : Bool) (u' : zU), KA u = some (v, u') → z_M l D A b gM yX11_atom cX11_atom 4 (some .boolean) fr lo [.ref (b + 0)] u (some (.int (bI v))) u') : ∀ (n : Nat) (x1 : Int32) (u : zU) (H : Heap) (locs : List Loc) (ls : Array Slot), f_X11_some_5 KA n x1 u = some (v, u') → z_W D A b gM u H → va_S A s.heap H locs → lv_has ls 3 [(0, .ref (b + 0)), (1, .int x1)] → W p l e { frames := fr + 2, cells := 0, slots := 0, locals := lo + 60 } s m args below meth c H locs 0 0 (z_End D A b gM below args s (some (.int (bI v))) u') (F0 m 5 ls []) := by
  have hx := C0.1
  have hb := C0.2.1
  intro n
  induction n with
  | zero => intro x1 u H locs ls h hW hS hl; cases h
  | succ n ih =>
    intro x1 u H locs ls h hW hS hl
    rw [f_X11_some_5_s] at h
    refine lv_aload_n hx hb dX11_some_5 rfl (lv_at hl 0 rfl) ?_
    refine z_geti C0 hW fl_X11_25 rfl rfl dX11_some_6 ?_
    refine lv_iconst (v := (-1 : Int32)) hx hb dX11_some_9 (by decide) ?_
    refine lv_icmp_ne (tgt := 44) hx hb dX11_some_10 (by decide) (fun hc => ?_) (fun hc => ?_)
    · replace h := z_f h hc
      clear hc
      refine lv_iload_n hx hb dX11_some_44 rfl (lv_at hl 1 rfl) ?_
      replace h := z_bd h
      obtain ⟨t3, hq, h⟩ := h
      refine z_as (z_b01_eq hq) ?_
      cases h
      exact z_zret C0 hr hlk hW hS dX11_some_45
    · replace h := z_t h hc
      clear hc
      refine lv_aload_n hx hb dX11_some_13 rfl (lv_at hl 0 rfl) ?_
      refine z_ldcS (k := 33) (tx := "or") C0 (List.mem_of_getElem? (i := 69) rfl) dX11_some_14 ?_
      replace h := z_bd2 h
      obtain ⟨t4, u5, hq, h⟩ := h
      refine z_cvi (As := [.ref (sA D 33)]) C0 hml hl.1 hW hS (c_X11_has l D A b 33 (by decide) u hq) mv_X11_108 rfl ⟨(show 4 + 1 ≤ fr + 2 by omega), (show 8 + (4 + 11) + (85) ≤ lo + 60 by omega)⟩ rfl rfl (Nat.le_of_ble_eq_true rfl) dX11_some_16 (fun H locs hW hS => ?_)
      clear hq
      refine z_ifeqZ C0 (tgt := 44) dX11_some_19 (by decide) (fun hc => ?_) (fun hc => ?_)
      · replace h := z_ff h hc
        clear hc
        refine lv_iload_n hx hb dX11_some_44 rfl (lv_at hl 1 rfl) ?_
        replace h := z_bd h
        obtain ⟨t6, hq, h⟩ := h
        refine z_as (z_b01_eq hq) ?_
        cases h
        exact z_zret C0 hr hlk hW hS dX11_some_45
      · replace h := z_t h hc
        clear hc
        refine lv_aload_n hx hb dX11_some_22 rfl (lv_at hl 0 rfl) ?_
        replace h := z_bd2 h
        obtain ⟨t7, u8, hq, h⟩ := h
        refine z_cvi (As := []) C0 hml hl.1 hW hS (c_X11_every l D A b hfr hlo hA u5 hq) mv_X11_222 rfl ⟨(show fr + 1 + 1 ≤ fr + 2 by omega), (show 8 + (3 + 11) + (lo + 30) ≤ lo + 60 by omega)⟩ rfl rfl (Nat.le_of_ble_eq_true rfl) dX11_some_23 (fun H locs hW hS => ?_)
        clear hq
        refine lv_istore_n (lv' := [(2, .int (bI t7)), (0, .ref (b + 0)), (1, .int x1)]) hx hb dX11_some_26 rfl hl (by decide) rfl (fun ls hl => ?_)
        refine lv_iload_n hx hb dX11_some_27 rfl (lv_at hl 2 rfl) ?_
        refine lv_if_ne (tgt := 35) hx hb dX11_some_28 (by decide) (fun hc => ?_) (fun hc => ?_)
        · replace h := z_f h hc
          clear hc
          refine lv_iconst (v := (1 : Int32)) hx hb dX11_some_35 (by decide) ?_
          refine lv_goto (tgt := 40) hx hb dX11_some_36 (by decide) ?_
          refine lv_istore_n (lv' := [(1, .int (1 : Int32)), (2, .int (bI t7)), (0, .ref (b + 0))]) hx hb dX11_some_40 rfl hl (by decide) rfl (fun ls hl => ?_)
          refine lv_goto (tgt := 5) hx hb dX11_some_41 (by decide) ?_
          exact ih _ _ _ _ _ h hW hS (lv_sub hl [2, 0] rfl)
        · replace h := z_t h hc
          clear hc
          refine lv_iload_n hx hb dX11_some_31 rfl (lv_at hl 0 rfl) ?_
          refine lv_if_eq (tgt := 39) hx hb dX11_some_32 (by decide) (fun hc => ?_) (fun hc => ?_)
          · replace h := z_t h hc
            clear hc
            refine lv_iconst (v := (0 : Int32)) hx hb dX11_some_39 (by decide) ?_
            refine lv_istore_n (lv' := [(1, .int (0 : Int32)), (2, .int (bI t7)), (0, .ref (b + 0))]) hx hb dX11_some_40 rfl hl (by decide) rfl (fun ls hl => ?_)
            refine lv_goto (tgt := 5) hx hb dX11_some_41 (by decide) ?_
            exact ih _ _ _ _ _ h hW hS (lv_sub hl [2, 0] rfl)
          · replace h := z_f h hc
            clear hc
            refine lv_iconst (v := (1 : Int32)) hx hb dX11_some_35 (by decide) ?_
            refine lv_goto (tgt := 40) hx hb dX11_some_36 (by decide) ?_
            refine lv_istore_n (lv' := [(1, .int (1 : Int32)), (2, .int (bI t7)), (0, .ref (b + 0))]) hx hb dX11_some_40 rfl hl (by decide) rfl (fun ls hl => ?_)
            refine lv_goto (tgt := 5) hx hb dX11_some_41 (by decide) ?_
            exact ih _ _ _ _ _ h hW hS (lv_sub hl [2, 0] rfl)
theorem f_X11_some_e (KA : zU → Option (Bool × zU))  (u : zU) : f_X11_some KA u = z_b2 (f_X11_every KA u) (fun t1 u2 => f_X11_some_5 KA 5000 (bI t1) u2) := rfl
set_option maxRecDepth 100000 in
set_option maxHeartbeats 4000000 in
theorem c_X11_some (l : Launch) (D : zD) (A : Nat → Prop) (b : Nat) {fr lo : Nat} (hfr : 12 ≤ fr) (hlo : 400 ≤ lo) {KA : zU → Option (Bool × zU)} (hA : ∀ (u : zU) (v : Bool) (u' : zU), KA u = some (v, u') → z_M l D A b gM yX11_atom cX11_atom 4 (some .boolean) fr lo [.ref (b + 0)] u (some (.int (bI v))) u')  (u : zU) {v : Bool} {u' : zU} (h : f_X11_some KA u = some (v, u')) : z_M l D A b gM yX11_some cX11_some 3 (some .boolean) (fr + 2) (lo + 60) [.ref (b + 0)] u (some (.int (bI v))) u' := by
  refine z_enter (by decide) (Nat.le_of_ble_eq_true rfl) ?_
  intro p e s m below meth c ls C0 hr hml hlk hW hS hl
  have hl : lv_has ls 3 [(0, .ref (b + 0))] := hl
  have hx := C0.1
  have hb := C0.2.1
  rw [f_X11_some_e] at h
  refine lv_aload_n hx hb dX11_some_0 rfl (lv_at hl 0 rfl) ?_
  replace h := z_bd2 h
  obtain ⟨t1, u2, hq, h⟩ := h
  refine z_cvi (As := []) C0 hml hl.1 hW hS (c_X11_every l D A b hfr hlo hA u hq) mv_X11_222 rfl ⟨(show fr + 1 + 1 ≤ fr + 2 by omega), (show 8 + (3 + 11) + (lo + 30) ≤ lo + 60 by omega)⟩ rfl rfl (Nat.le_of_ble_eq_true rfl) dX11_some_1 (fun H locs hW hS => ?_)
  clear hq
  refine lv_istore_n (lv' := [(1, .int (bI t1)), (0, .ref (b + 0))]) hx hb dX11_some_4 rfl hl (by decide) rfl (fun ls hl => ?_)
  exact l_X11_some_5 C0 hr hml hlk hfr hlo hA 5000 _ _ _ _ _ h hW hS (lv_sub hl [1, 0] rfl)
def f_X11_atom : Nat → zU → Option (Bool × zU)
  | 0, _ => none
  | n + 1, u =>
    if (u 0 12) = (-1 : Int32) then (z_b2 (f_X11_place u) (fun r1 u2 => z_b2 (f_X11_has 35 u2) (fun t3 u4 => if (bI t3) = 0 then (z_b2 (f_X11_isSign (40 : Int32) u4) (fun t26 u27 => if t26 = true then (if (u27 0 13) = (6 : Int32) then (z_let (f_X11_wrong r1 u27) (fun u48 => some (false, u48))) else (z_let (z_up u27 0 13 ((u27 0 13) + (1 : Int32))) (fun u28 => if (bI t3) = 0 then (z_let (z_up u28 0 11 ((u28 0 11) + (1 : Int32))) (fun u29 => z_b2 (f_X11_some (f_X11_atom n) u29) (fun t30 u31 => if (u31 0 12) = (-1 : Int32) then (z_b2 (f_X11_isSign (41 : Int32) u31) (fun t35 u36 => if t35 = true then (z_let (z_up u36 0 11 ((u36 0 11) + (1 : Int32))) (fun u37 => z_let (z_up u37 0 13 ((u37 0 13) - (1 : Int32))) (fun u38 => (z_b01 (bI t30)).bind (fun t39 => some (t39, u38))))) else (z_let (f_X11_wrong (u36 0 11) u36) (fun u40 => z_let (z_up u40 0 11 ((u40 0 11) + (1 : Int32))) (fun u41 => z_let (z_up u41 0 13 ((u41 0 13) - (1 : Int32))) (fun u42 => (z_b01 (bI t30)).bind (fun t43 => some (t43, u42)))))))) else (z_let (z_up u31 0 11 ((u31 0 11) + (1 : Int32))) (fun u32 => z_let (z_up u32 0 13 ((u32 0 13) - (1 : Int32))) (fun u33 => (z_b01 (bI t30)).bind (fun t34 => some (t34, u33)))))))) else (z_b2 (f_X11_atom n u28) (fun t44 u45 => if t44 = true then (z_let (z_up u45 0 13 ((u45 0 13) - (1 : Int32))) (fun u46 => some (false, u46))) else (z_let (z_up u45 0 13 ((u45 0 13) - (1 : Int32))) (fun u47 => some (true, u47)))))))) else (z_b2 (f_X11_plain u27) (fun t49 u50 => some (t49, u50))))) else (if (u4 0 13) = (6 : Int32) then (z_let (f_X11_wrong r1 u4) (fun u25 => some (false, u25))) else (z_let (z_up u4 0 13 ((u4 0 13) + (1 : Int32))) (fun u5 => if (bI t3) = 0 then (z_let (z_up u5 0 11 ((u5 0 11) + (1 : Int32))) (fun u6 => z_b2 (f_X11_some (f_X11_atom n) u6) (fun t7 u8 => if (u8 0 12) = (-1 : Int32) then (z_b2 (f_X11_isSign (41 : Int32) u8) (fun t12 u13 => if t12 = true then (z_let (z_up u13 0 11 ((u13 0 11) + (1 : Int32))) (fun u14 => z_let (z_up u14 0 13 ((u14 0 13) - (1 : Int32))) (fun u15 => (z_b01 (bI t7)).bind (fun t16 => some (t16, u15))))) else (z_let (f_X11_wrong (u13 0 11) u13) (fun u17 => z_let (z_up u17 0 11 ((u17 0 11) + (1 : Int32))) (fun u18 => z_let (z_up u18 0 13 ((u18 0 13) - (1 : Int32))) (fun u19 => (z_b01 (bI t7)).bind (fun t20 => some (t20, u19)))))))) else (z_let (z_up u8 0 11 ((u8 0 11) + (1 : Int32))) (fun u9 => z_let (z_up u9 0 13 ((u9 0 13) - (1 : Int32))) (fun u10 => (z_b01 (bI t7)).bind (fun t11 => some (t11, u10)))))))) else (z_b2 (f_X11_atom n u5) (fun t21 u22 => if t21 = true then (z_let (z_up u22 0 13 ((u22 0 13) - (1 : Int32))) (fun u23 => some (false, u23))) else (z_let (z_up u22 0 13 ((u22 0 13) - (1 : Int32))) (fun u24 => some (true, u24))))))))))) else (some (false, u))
theorem f_X11_atom_e (n : Nat) (u : zU) : f_X11_atom (n + 1) u = if (u 0 12) = (-1 : Int32) then (z_b2 (f_X11_place u) (fun r1 u2 => z_b2 (f_X11_has 35 u2) (fun t3 u4 => if (bI t3) = 0 then (z_b2 (f_X11_isSign (40 : Int32) u4) (fun t26 u27 => if t26 = true then (if (u27 0 13) = (6 : Int32) then (z_let (f_X11_wrong r1 u27) (fun u48 => some (false, u48))) else (z_let (z_up u27 0 13 ((u27 0 13) + (1 : Int32))) (fun u28 => if (bI t3) = 0 then (z_let (z_up u28 0 11 ((u28 0 11) + (1 : Int32))) (fun u29 => z_b2 (f_X11_some (f_X11_atom n) u29) (fun t30 u31 => if (u31 0 12) = (-1 : Int32) then (z_b2 (f_X11_isSign (41 : Int32) u31) (fun t35 u36 => if t35 = true then (z_let (z_up u36 0 11 ((u36 0 11) + (1 : Int32))) (fun u37 => z_let (z_up u37 0 13 ((u37 0 13) - (1 : Int32))) (fun u38 => (z_b01 (bI t30)).bind (fun t39 => some (t39, u38))))) else (z_let (f_X11_wrong (u36 0 11) u36) (fun u40 => z_let (z_up u40 0 11 ((u40 0 11) + (1 : Int32))) (fun u41 => z_let (z_up u41 0 13 ((u41 0 13) - (1 : Int32))) (fun u42 => (z_b01 (bI t30)).bind (fun t43 => some (t43, u42)))))))) else (z_let (z_up u31 0 11 ((u31 0 11) + (1 : Int32))) (fun u32 => z_let (z_up u32 0 13 ((u32 0 13) - (1 : Int32))) (fun u33 => (z_b01 (bI t30)).bind (fun t34 => some (t34, u33)))))))) else (z_b2 (f_X11_atom n u28) (fun t44 u45 => if t44 = true then (z_let (z_up u45 0 13 ((u45 0 13) - (1 : Int32))) (fun u46 => some (false, u46))) else (z_let (z_up u45 0 13 ((u45 0 13) - (1 : Int32))) (fun u47 => some (true, u47)))))))) else (z_b2 (f_X11_plain u27) (fun t49 u50 => some (t49, u50))))) else (if (u4 0 13) = (6 : Int32) then (z_let (f_X11_wrong r1 u4) (fun u25 => some (false, u25))) else (z_let (z_up u4 0 13 ((u4 0 13) + (1 : Int32))) (fun u5 => if (bI t3) = 0 then (z_let (z_up u5 0 11 ((u5 0 11) + (1 : Int32))) (fun u6 => z_b2 (f_X11_some (f_X11_atom n) u6) (fun t7 u8 => if (u8 0 12) = (-1 : Int32) then (z_b2 (f_X11_isSign (41 : Int32) u8) (fun t12 u13 => if t12 = true then (z_let (z_up u13 0 11 ((u13 0 11) + (1 : Int32))) (fun u14 => z_let (z_up u14 0 13 ((u14 0 13) - (1 : Int32))) (fun u15 => (z_b01 (bI t7)).bind (fun t16 => some (t16, u15))))) else (z_let (f_X11_wrong (u13 0 11) u13) (fun u17 => z_let (z_up u17 0 11 ((u17 0 11) + (1 : Int32))) (fun u18 => z_let (z_up u18 0 13 ((u18 0 13) - (1 : Int32))) (fun u19 => (z_b01 (bI t7)).bind (fun t20 => some (t20, u19)))))))) else (z_let (z_up u8 0 11 ((u8 0 11) + (1 : Int32))) (fun u9 => z_let (z_up u9 0 13 ((u9 0 13) - (1 : Int32))) (fun u10 => (z_b01 (bI t7)).bind (fun t11 => some (t11, u10)))))))) else (z_b2 (f_X11_atom n u5) (fun t21 u22 => if t21 = true then (z_let (z_up u22 0 13 ((u22 0 13) - (1 : Int32))) (fun u23 => some (false, u23))) else (z_let (z_up u22 0 13 ((u22 0 13) - (1 : Int32))) (fun u24 => some (true, u24))))))))))) else (some (false, u)) := rfl
set_option maxRecDepth 100000 in
set_option maxHeartbeats 4000000 in
theorem c_X11_atom (l : Launch) (D : zD) (A : Nat → Prop) (b : Nat) : ∀ (n : Nat) (u : zU) (v : Bool) (u' : zU), f_X11_atom n u = some (v, u') → z_M l D A b gM yX11_atom cX11_atom 4 (some .boolean) (zFA n) (zLA n) [.ref (b + 0)] u (some (.int (bI v))) u' := by
  intro n
  induction n with
  | zero => intro  u v u' h; cases h
  | succ n ih =>
    intro  u v u' h
    have hfr : 12 ≤ zFA n := by unfold zFA; omega
    have hlo : 400 ≤ zLA n := by unfold zLA; omega
    have eF : zFA (n + 1) = zFA n + 3 := by unfold zFA; omega
    have eL : zLA (n + 1) = zLA n + 100 := by unfold zLA; omega
    rw [eF, eL]
    refine z_enter (by decide) (Nat.le_of_ble_eq_true rfl) ?_
    intro p e s m below meth c ls C0 hr hml hlk hW hS hl
    have hl : lv_has ls 4 [(0, .ref (b + 0))] := hl
    have hx := C0.1
    have hb := C0.2.1
    rw [f_X11_atom_e] at h
    refine lv_aload_n hx hb dX11_atom_0 rfl (lv_at hl 0 rfl) ?_
    refine z_geti C0 hW fl_X11_25 rfl rfl dX11_atom_1 ?_
    refine lv_iconst (v := (-1 : Int32)) hx hb dX11_atom_4 (by decide) ?_
    refine lv_icmp_eq (tgt := 10) hx hb dX11_atom_5 (by decide) (fun hc => ?_) (fun hc => ?_)
    · replace h := z_t h hc
      clear hc
      refine lv_aload_n hx hb dX11_atom_10 rfl (lv_at hl 0 rfl) ?_
      replace h := z_bd2 h
      obtain ⟨r1, u2, hq, h⟩ := h
      refine z_cvi (As := []) C0 hml hl.1 hW hS (c_X11_place l D A b u hq) mv_X11_101 rfl ⟨(show 2 + 1 ≤ zFA n + 3 by omega), (show 8 + (1 + 11) + (41) ≤ zLA n + 100 by omega)⟩ rfl rfl (Nat.le_of_ble_eq_true rfl) dX11_atom_11 (fun H locs hW hS => ?_)
      clear hq
      refine lv_istore_n (lv' := [(1, .int r1), (0, .ref (b + 0))]) hx hb dX11_atom_14 rfl hl (by decide) rfl (fun ls hl => ?_)
      refine lv_aload_n hx hb dX11_atom_15 rfl (lv_at hl 1 rfl) ?_
      refine z_ldcS (k := 35) (tx := "not") C0 (List.mem_of_getElem? (i := 67) rfl) dX11_atom_16 ?_
      replace h := z_bd2 h
      obtain ⟨t3, u4, hq, h⟩ := h
      refine z_cvi (As := [.ref (sA D 35)]) C0 hml hl.1 hW hS (c_X11_has l D A b 35 (by decide) u2 hq) mv_X11_108 rfl ⟨(show 4 + 1 ≤ zFA n + 3 by omega), (show 8 + (4 + 11) + (85) ≤ zLA n + 100 by omega)⟩ rfl rfl (Nat.le_of_ble_eq_true rfl) dX11_atom_18 (fun H locs hW hS => ?_)
      clear hq
      refine lv_istore_n (lv' := [(2, .int (bI t3)), (1, .int r1), (0, .ref (b + 0))]) hx hb dX11_atom_21 rfl hl (by decide) rfl (fun ls hl => ?_)
      refine lv_iload_n hx hb dX11_atom_22 rfl (lv_at hl 0 rfl) ?_
      refine lv_if_ne (tgt := 40) hx hb dX11_atom_23 (by decide) (fun hc => ?_) (fun hc => ?_)
      · replace h := z_f h hc
        clear hc
        refine lv_aload_n hx hb dX11_atom_40 rfl (lv_at hl 2 rfl) ?_
        refine z_geti C0 hW fl_X11_157 rfl rfl dX11_atom_41 ?_
        refine lv_bipush (v := (6 : Int32)) hx hb dX11_atom_44 (by decide) ?_
        refine lv_icmp_ne (tgt := 56) hx hb dX11_atom_46 (by decide) (fun hc => ?_) (fun hc => ?_)
        · replace h := z_f h hc
          clear hc
          refine lv_aload_n hx hb dX11_atom_56 rfl (lv_at hl 2 rfl) ?_
          refine lv_dup hx hb dX11_atom_57 rfl ?_
          refine z_geti C0 hW fl_X11_157 rfl rfl dX11_atom_58 ?_
          refine lv_iconst (v := (1 : Int32)) hx hb dX11_atom_61 (by decide) ?_
          refine lv_iadd hx hb dX11_atom_62 ?_
          refine z_puti C0 hW hS fl_X11_157 rfl rfl rfl rfl dX11_atom_63 (fun H locs u5 e1 hW hS => ?_)
          replace h := z_ly h e1
          clear e1
          refine lv_iconst (v := (0 : Int32)) hx hb dX11_atom_66 (by decide) ?_
          refine lv_istore_n (lv' := [(3, .int (0 : Int32)), (2, .int (bI t3)), (1, .int r1), (0, .ref (b + 0))]) hx hb dX11_atom_67 rfl hl (by decide) rfl (fun ls hl => ?_)
          refine lv_iload_n hx hb dX11_atom_68 rfl (lv_at hl 1 rfl) ?_
          refine lv_if_eq (tgt := 88) hx hb dX11_atom_69 (by decide) (fun hc => ?_) (fun hc => ?_)
          · replace h := z_t h hc
            clear hc
            refine lv_aload_n hx hb dX11_atom_88 rfl (lv_at hl 3 rfl) ?_
            refine lv_dup hx hb dX11_atom_89 rfl ?_
            refine z_geti C0 hW fl_X11_79 rfl rfl dX11_atom_90 ?_
            refine lv_iconst (v := (1 : Int32)) hx hb dX11_atom_93 (by decide) ?_
            refine lv_iadd hx hb dX11_atom_94 ?_
            refine z_puti C0 hW hS fl_X11_79 rfl rfl rfl rfl dX11_atom_95 (fun H locs u6 e1 hW hS => ?_)
            replace h := z_ly h e1
            clear e1
            refine lv_aload_n hx hb dX11_atom_98 rfl (lv_at hl 3 rfl) ?_
            replace h := z_bd2 h
            obtain ⟨t7, u8, hq, h⟩ := h
            refine z_cvi (As := []) C0 hml hl.1 hW hS (c_X11_some l D A b hfr hlo (fun q0 q1 q2 h => ih q0 q1 q2 h) u6 hq) mv_X11_217 rfl ⟨(show zFA n + 2 + 1 ≤ zFA n + 3 by omega), (show 8 + (3 + 11) + (zLA n + 60) ≤ zLA n + 100 by omega)⟩ rfl rfl (Nat.le_of_ble_eq_true rfl) dX11_atom_99 (fun H locs hW hS => ?_)
            clear hq
            refine lv_istore_n (lv' := [(3, .int (bI t7)), (2, .int (bI t3)), (1, .int r1), (0, .ref (b + 0))]) hx hb dX11_atom_102 rfl hl (by decide) rfl (fun ls hl => ?_)
            refine lv_aload_n hx hb dX11_atom_103 rfl (lv_at hl 3 rfl) ?_
            refine z_geti C0 hW fl_X11_25 rfl rfl dX11_atom_104 ?_
            refine lv_iconst (v := (-1 : Int32)) hx hb dX11_atom_107 (by decide) ?_
            refine lv_icmp_ne (tgt := 128) hx hb dX11_atom_108 (by decide) (fun hc => ?_) (fun hc => ?_)
            · replace h := z_f h hc
              clear hc
              refine lv_aload_n hx hb dX11_atom_128 rfl (lv_at hl 3 rfl) ?_
              refine lv_dup hx hb dX11_atom_129 rfl ?_
              refine z_geti C0 hW fl_X11_79 rfl rfl dX11_atom_130 ?_
              refine lv_iconst (v := (1 : Int32)) hx hb dX11_atom_133 (by decide) ?_
              refine lv_iadd hx hb dX11_atom_134 ?_
              refine z_puti C0 hW hS fl_X11_79 rfl rfl rfl rfl dX11_atom_135 (fun H locs u9 e1 hW hS => ?_)
              replace h := z_ly h e1
              clear e1
              refine lv_aload_n hx hb dX11_atom_138 rfl (lv_at hl 3 rfl) ?_
              refine lv_dup hx hb dX11_atom_139 rfl ?_
              refine z_geti C0 hW fl_X11_157 rfl rfl dX11_atom_140 ?_
              refine lv_iconst (v := (1 : Int32)) hx hb dX11_atom_143 (by decide) ?_
              refine lv_isub hx hb dX11_atom_144 ?_
              refine z_puti C0 hW hS fl_X11_157 rfl rfl rfl rfl dX11_atom_145 (fun H locs u10 e1 hW hS => ?_)
              replace h := z_ly h e1
              clear e1
              refine lv_iload_n hx hb dX11_atom_148 rfl (lv_at hl 0 rfl) ?_
              replace h := z_bd h
              obtain ⟨t11, hq, h⟩ := h
              refine z_as (z_b01_eq hq) ?_
              cases h
              exact z_zret C0 hr hlk hW hS dX11_atom_149
            · replace h := z_t h hc
              clear hc
              refine lv_aload_n hx hb dX11_atom_111 rfl (lv_at hl 3 rfl) ?_
              refine lv_bipush (v := (41 : Int32)) hx hb dX11_atom_112 (by decide) ?_
              replace h := z_bd2 h
              obtain ⟨t12, u13, hq, h⟩ := h
              refine z_cvi (As := [.int (41 : Int32)]) C0 hml hl.1 hW hS (c_X11_isSign l D A b (41 : Int32) u8 hq) mv_X11_166 rfl ⟨(show 2 + 1 ≤ zFA n + 3 by omega), (show 8 + (2 + 11) + (41) ≤ zLA n + 100 by omega)⟩ rfl rfl (Nat.le_of_ble_eq_true rfl) dX11_atom_114 (fun H locs hW hS => ?_)
              clear hq
              refine z_ifneZ C0 (tgt := 128) dX11_atom_117 (by decide) (fun hc => ?_) (fun hc => ?_)
              · replace h := z_t h hc
                clear hc
                refine lv_aload_n hx hb dX11_atom_128 rfl (lv_at hl 3 rfl) ?_
                refine lv_dup hx hb dX11_atom_129 rfl ?_
                refine z_geti C0 hW fl_X11_79 rfl rfl dX11_atom_130 ?_
                refine lv_iconst (v := (1 : Int32)) hx hb dX11_atom_133 (by decide) ?_
                refine lv_iadd hx hb dX11_atom_134 ?_
                refine z_puti C0 hW hS fl_X11_79 rfl rfl rfl rfl dX11_atom_135 (fun H locs u14 e1 hW hS => ?_)
                replace h := z_ly h e1
                clear e1
                refine lv_aload_n hx hb dX11_atom_138 rfl (lv_at hl 3 rfl) ?_
                refine lv_dup hx hb dX11_atom_139 rfl ?_
                refine z_geti C0 hW fl_X11_157 rfl rfl dX11_atom_140 ?_
                refine lv_iconst (v := (1 : Int32)) hx hb dX11_atom_143 (by decide) ?_
                refine lv_isub hx hb dX11_atom_144 ?_
                refine z_puti C0 hW hS fl_X11_157 rfl rfl rfl rfl dX11_atom_145 (fun H locs u15 e1 hW hS => ?_)
                replace h := z_ly h e1
                clear e1
                refine lv_iload_n hx hb dX11_atom_148 rfl (lv_at hl 0 rfl) ?_
                replace h := z_bd h
                obtain ⟨t16, hq, h⟩ := h
                refine z_as (z_b01_eq hq) ?_
                cases h
                exact z_zret C0 hr hlk hW hS dX11_atom_149
              · replace h := z_ff h hc
                clear hc
                refine lv_aload_n hx hb dX11_atom_120 rfl (lv_at hl 3 rfl) ?_
                refine lv_aload_n hx hb dX11_atom_121 rfl (lv_at hl 3 rfl) ?_
                refine z_geti C0 hW fl_X11_79 rfl rfl dX11_atom_122 ?_
                obtain ⟨u17, hq⟩ : ∃ y, f_X11_wrong (u13 0 11) u13 = y := ⟨_, rfl⟩
                replace h := z_lz h hq
                refine z_cvv (As := [.int (u13 0 11)]) C0 hml hl.1 hW hS (c_X11_wrong l D A b (u13 0 11) u13 hq) mv_X11_104 rfl ⟨(show 0 + 1 ≤ zFA n + 3 by omega), (show 8 + (2 + 11) + (0) ≤ zLA n + 100 by omega)⟩ rfl rfl (Nat.le_of_ble_eq_true rfl) dX11_atom_125 (fun H locs hW hS => ?_)
                clear hq
                refine lv_aload_n hx hb dX11_atom_128 rfl (lv_at hl 3 rfl) ?_
                refine lv_dup hx hb dX11_atom_129 rfl ?_
                refine z_geti C0 hW fl_X11_79 rfl rfl dX11_atom_130 ?_
                refine lv_iconst (v := (1 : Int32)) hx hb dX11_atom_133 (by decide) ?_
                refine lv_iadd hx hb dX11_atom_134 ?_
                refine z_puti C0 hW hS fl_X11_79 rfl rfl rfl rfl dX11_atom_135 (fun H locs u18 e1 hW hS => ?_)
                replace h := z_ly h e1
                clear e1
                refine lv_aload_n hx hb dX11_atom_138 rfl (lv_at hl 3 rfl) ?_
                refine lv_dup hx hb dX11_atom_139 rfl ?_
                refine z_geti C0 hW fl_X11_157 rfl rfl dX11_atom_140 ?_
                refine lv_iconst (v := (1 : Int32)) hx hb dX11_atom_143 (by decide) ?_
                refine lv_isub hx hb dX11_atom_144 ?_
                refine z_puti C0 hW hS fl_X11_157 rfl rfl rfl rfl dX11_atom_145 (fun H locs u19 e1 hW hS => ?_)
                replace h := z_ly h e1
                clear e1
                refine lv_iload_n hx hb dX11_atom_148 rfl (lv_at hl 0 rfl) ?_
                replace h := z_bd h
                obtain ⟨t20, hq, h⟩ := h
                refine z_as (z_b01_eq hq) ?_
                cases h
                exact z_zret C0 hr hlk hW hS dX11_atom_149
          · replace h := z_f h hc
            clear hc
            refine lv_aload_n hx hb dX11_atom_72 rfl (lv_at hl 3 rfl) ?_
            replace h := z_bd2 h
            obtain ⟨t21, u22, hq, h⟩ := h
            refine z_cvi (As := []) C0 hml hl.1 hW hS (ih _ _ _ hq) mv_X11_214 rfl ⟨(show zFA n + 1 ≤ zFA n + 3 by omega), (show 8 + (4 + 11) + (zLA n) ≤ zLA n + 100 by omega)⟩ rfl rfl (Nat.le_of_ble_eq_true rfl) dX11_atom_73 (fun H locs hW hS => ?_)
            clear hq
            refine z_ifneZ C0 (tgt := 83) dX11_atom_76 (by decide) (fun hc => ?_) (fun hc => ?_)
            · replace h := z_t h hc
              clear hc
              refine lv_iconst (v := (0 : Int32)) hx hb dX11_atom_83 (by decide) ?_
              refine lv_istore_n (lv' := [(3, .int (0 : Int32)), (2, .int (bI t3)), (1, .int r1), (0, .ref (b + 0))]) hx hb dX11_atom_84 rfl hl (by decide) rfl (fun ls hl => ?_)
              refine lv_goto (tgt := 138) hx hb dX11_atom_85 (by decide) ?_
              refine lv_aload_n hx hb dX11_atom_138 rfl (lv_at hl 3 rfl) ?_
              refine lv_dup hx hb dX11_atom_139 rfl ?_
              refine z_geti C0 hW fl_X11_157 rfl rfl dX11_atom_140 ?_
              refine lv_iconst (v := (1 : Int32)) hx hb dX11_atom_143 (by decide) ?_
              refine lv_isub hx hb dX11_atom_144 ?_
              refine z_puti C0 hW hS fl_X11_157 rfl rfl rfl rfl dX11_atom_145 (fun H locs u23 e1 hW hS => ?_)
              replace h := z_ly h e1
              clear e1
              refine lv_iload_n hx hb dX11_atom_148 rfl (lv_at hl 0 rfl) ?_
              cases h
              exact z_zret (x := false) C0 hr hlk hW hS dX11_atom_149
            · replace h := z_ff h hc
              clear hc
              refine lv_iconst (v := (1 : Int32)) hx hb dX11_atom_79 (by decide) ?_
              refine lv_goto (tgt := 84) hx hb dX11_atom_80 (by decide) ?_
              refine lv_istore_n (lv' := [(3, .int (1 : Int32)), (2, .int (bI t3)), (1, .int r1), (0, .ref (b + 0))]) hx hb dX11_atom_84 rfl hl (by decide) rfl (fun ls hl => ?_)
              refine lv_goto (tgt := 138) hx hb dX11_atom_85 (by decide) ?_
              refine lv_aload_n hx hb dX11_atom_138 rfl (lv_at hl 3 rfl) ?_
              refine lv_dup hx hb dX11_atom_139 rfl ?_
              refine z_geti C0 hW fl_X11_157 rfl rfl dX11_atom_140 ?_
              refine lv_iconst (v := (1 : Int32)) hx hb dX11_atom_143 (by decide) ?_
              refine lv_isub hx hb dX11_atom_144 ?_
              refine z_puti C0 hW hS fl_X11_157 rfl rfl rfl rfl dX11_atom_145 (fun H locs u24 e1 hW hS => ?_)
              replace h := z_ly h e1
              clear e1
              refine lv_iload_n hx hb dX11_atom_148 rfl (lv_at hl 0 rfl) ?_
              cases h
              exact z_zret (x := true) C0 hr hlk hW hS dX11_atom_149
        · replace h := z_t h hc
          clear hc
          refine lv_aload_n hx hb dX11_atom_49 rfl (lv_at hl 2 rfl) ?_
          refine lv_iload_n hx hb dX11_atom_50 rfl (lv_at hl 1 rfl) ?_
          obtain ⟨u25, hq⟩ : ∃ y, f_X11_wrong r1 u4 = y := ⟨_, rfl⟩
          replace h := z_lz h hq
          refine z_cvv (As := [.int r1]) C0 hml hl.1 hW hS (c_X11_wrong l D A b r1 u4 hq) mv_X11_104 rfl ⟨(show 0 + 1 ≤ zFA n + 3 by omega), (show 8 + (2 + 11) + (0) ≤ zLA n + 100 by omega)⟩ rfl rfl (Nat.le_of_ble_eq_true rfl) dX11_atom_51 (fun H locs hW hS => ?_)
          clear hq
          refine lv_iconst (v := (0 : Int32)) hx hb dX11_atom_54 (by decide) ?_
          cases h
          exact z_zret (x := false) C0 hr hlk hW hS dX11_atom_55
      · replace h := z_t h hc
        clear hc
        refine lv_aload_n hx hb dX11_atom_26 rfl (lv_at hl 2 rfl) ?_
        refine lv_bipush (v := (40 : Int32)) hx hb dX11_atom_27 (by decide) ?_
        replace h := z_bd2 h
        obtain ⟨t26, u27, hq, h⟩ := h
        refine z_cvi (As := [.int (40 : Int32)]) C0 hml hl.1 hW hS (c_X11_isSign l D A b (40 : Int32) u4 hq) mv_X11_166 rfl ⟨(show 2 + 1 ≤ zFA n + 3 by omega), (show 8 + (2 + 11) + (41) ≤ zLA n + 100 by omega)⟩ rfl rfl (Nat.le_of_ble_eq_true rfl) dX11_atom_29 (fun H locs hW hS => ?_)
        clear hq
        refine z_ifneZ C0 (tgt := 40) dX11_atom_32 (by decide) (fun hc => ?_) (fun hc => ?_)
        · replace h := z_t h hc
          clear hc
          refine lv_aload_n hx hb dX11_atom_40 rfl (lv_at hl 2 rfl) ?_
          refine z_geti C0 hW fl_X11_157 rfl rfl dX11_atom_41 ?_
          refine lv_bipush (v := (6 : Int32)) hx hb dX11_atom_44 (by decide) ?_
          refine lv_icmp_ne (tgt := 56) hx hb dX11_atom_46 (by decide) (fun hc => ?_) (fun hc => ?_)
          · replace h := z_f h hc
            clear hc
            refine lv_aload_n hx hb dX11_atom_56 rfl (lv_at hl 2 rfl) ?_
            refine lv_dup hx hb dX11_atom_57 rfl ?_
            refine z_geti C0 hW fl_X11_157 rfl rfl dX11_atom_58 ?_
            refine lv_iconst (v := (1 : Int32)) hx hb dX11_atom_61 (by decide) ?_
            refine lv_iadd hx hb dX11_atom_62 ?_
            refine z_puti C0 hW hS fl_X11_157 rfl rfl rfl rfl dX11_atom_63 (fun H locs u28 e1 hW hS => ?_)
            replace h := z_ly h e1
            clear e1
            refine lv_iconst (v := (0 : Int32)) hx hb dX11_atom_66 (by decide) ?_
            refine lv_istore_n (lv' := [(3, .int (0 : Int32)), (2, .int (bI t3)), (1, .int r1), (0, .ref (b + 0))]) hx hb dX11_atom_67 rfl hl (by decide) rfl (fun ls hl => ?_)
            refine lv_iload_n hx hb dX11_atom_68 rfl (lv_at hl 1 rfl) ?_
            refine lv_if_eq (tgt := 88) hx hb dX11_atom_69 (by decide) (fun hc => ?_) (fun hc => ?_)
            · replace h := z_t h hc
              clear hc
              refine lv_aload_n hx hb dX11_atom_88 rfl (lv_at hl 3 rfl) ?_
              refine lv_dup hx hb dX11_atom_89 rfl ?_
              refine z_geti C0 hW fl_X11_79 rfl rfl dX11_atom_90 ?_
              refine lv_iconst (v := (1 : Int32)) hx hb dX11_atom_93 (by decide) ?_
              refine lv_iadd hx hb dX11_atom_94 ?_
              refine z_puti C0 hW hS fl_X11_79 rfl rfl rfl rfl dX11_atom_95 (fun H locs u29 e1 hW hS => ?_)
              replace h := z_ly h e1
              clear e1
              refine lv_aload_n hx hb dX11_atom_98 rfl (lv_at hl 3 rfl) ?_
              replace h := z_bd2 h
              obtain ⟨t30, u31, hq, h⟩ := h
              refine z_cvi (As := []) C0 hml hl.1 hW hS (c_X11_some l D A b hfr hlo (fun q0 q1 q2 h => ih q0 q1 q2 h) u29 hq) mv_X11_217 rfl ⟨(show zFA n + 2 + 1 ≤ zFA n + 3 by omega), (show 8 + (3 + 11) + (zLA n + 60) ≤ zLA n + 100 by omega)⟩ rfl rfl (Nat.le_of_ble_eq_true rfl) dX11_atom_99 (fun H locs hW hS => ?_)
              clear hq
              refine lv_istore_n (lv' := [(3, .int (bI t30)), (2, .int (bI t3)), (1, .int r1), (0, .ref (b + 0))]) hx hb dX11_atom_102 rfl hl (by decide) rfl (fun ls hl => ?_)
              refine lv_aload_n hx hb dX11_atom_103 rfl (lv_at hl 3 rfl) ?_
              refine z_geti C0 hW fl_X11_25 rfl rfl dX11_atom_104 ?_
              refine lv_iconst (v := (-1 : Int32)) hx hb dX11_atom_107 (by decide) ?_
              refine lv_icmp_ne (tgt := 128) hx hb dX11_atom_108 (by decide) (fun hc => ?_) (fun hc => ?_)
              · replace h := z_f h hc
                clear hc
                refine lv_aload_n hx hb dX11_atom_128 rfl (lv_at hl 3 rfl) ?_
                refine lv_dup hx hb dX11_atom_129 rfl ?_
                refine z_geti C0 hW fl_X11_79 rfl rfl dX11_atom_130 ?_
                refine lv_iconst (v := (1 : Int32)) hx hb dX11_atom_133 (by decide) ?_
                refine lv_iadd hx hb dX11_atom_134 ?_
                refine z_puti C0 hW hS fl_X11_79 rfl rfl rfl rfl dX11_atom_135 (fun H locs u32 e1 hW hS => ?_)
                replace h := z_ly h e1
                clear e1
                refine lv_aload_n hx hb dX11_atom_138 rfl (lv_at hl 3 rfl) ?_
                refine lv_dup hx hb dX11_atom_139 rfl ?_
                refine z_geti C0 hW fl_X11_157 rfl rfl dX11_atom_140 ?_
                refine lv_iconst (v := (1 : Int32)) hx hb dX11_atom_143 (by decide) ?_
                refine lv_isub hx hb dX11_atom_144 ?_
                refine z_puti C0 hW hS fl_X11_157 rfl rfl rfl rfl dX11_atom_145 (fun H locs u33 e1 hW hS => ?_)
                replace h := z_ly h e1
                clear e1
                refine lv_iload_n hx hb dX11_atom_148 rfl (lv_at hl 0 rfl) ?_
                replace h := z_bd h
                obtain ⟨t34, hq, h⟩ := h
                refine z_as (z_b01_eq hq) ?_
                cases h
                exact z_zret C0 hr hlk hW hS dX11_atom_149
              · replace h := z_t h hc
                clear hc
                refine lv_aload_n hx hb dX11_atom_111 rfl (lv_at hl 3 rfl) ?_
                refine lv_bipush (v := (41 : Int32)) hx hb dX11_atom_112 (by decide) ?_
                replace h := z_bd2 h
                obtain ⟨t35, u36, hq, h⟩ := h
                refine z_cvi (As := [.int (41 : Int32)]) C0 hml hl.1 hW hS (c_X11_isSign l D A b (41 : Int32) u31 hq) mv_X11_166 rfl ⟨(show 2 + 1 ≤ zFA n + 3 by omega), (show 8 + (2 + 11) + (41) ≤ zLA n + 100 by omega)⟩ rfl rfl (Nat.le_of_ble_eq_true rfl) dX11_atom_114 (fun H locs hW hS => ?_)
                clear hq
                refine z_ifneZ C0 (tgt := 128) dX11_atom_117 (by decide) (fun hc => ?_) (fun hc => ?_)
                · replace h := z_t h hc
                  clear hc
                  refine lv_aload_n hx hb dX11_atom_128 rfl (lv_at hl 3 rfl) ?_
                  refine lv_dup hx hb dX11_atom_129 rfl ?_
                  refine z_geti C0 hW fl_X11_79 rfl rfl dX11_atom_130 ?_
                  refine lv_iconst (v := (1 : Int32)) hx hb dX11_atom_133 (by decide) ?_
                  refine lv_iadd hx hb dX11_atom_134 ?_
                  refine z_puti C0 hW hS fl_X11_79 rfl rfl rfl rfl dX11_atom_135 (fun H locs u37 e1 hW hS => ?_)
                  replace h := z_ly h e1
                  clear e1
                  refine lv_aload_n hx hb dX11_atom_138 rfl (lv_at hl 3 rfl) ?_
                  refine lv_dup hx hb dX11_atom_139 rfl ?_
                  refine z_geti C0 hW fl_X11_157 rfl rfl dX11_atom_140 ?_
                  refine lv_iconst (v := (1 : Int32)) hx hb dX11_atom_143 (by decide) ?_
                  refine lv_isub hx hb dX11_atom_144 ?_
                  refine z_puti C0 hW hS fl_X11_157 rfl rfl rfl rfl dX11_atom_145 (fun H locs u38 e1 hW hS => ?_)
                  replace h := z_ly h e1
                  clear e1
                  refine lv_iload_n hx hb dX11_atom_148 rfl (lv_at hl 0 rfl) ?_
                  replace h := z_bd h
                  obtain ⟨t39, hq, h⟩ := h
                  refine z_as (z_b01_eq hq) ?_
                  cases h
                  exact z_zret C0 hr hlk hW hS dX11_atom_149
                · replace h := z_ff h hc
                  clear hc
                  refine lv_aload_n hx hb dX11_atom_120 rfl (lv_at hl 3 rfl) ?_
                  refine lv_aload_n hx hb dX11_atom_121 rfl (lv_at hl 3 rfl) ?_
                  refine z_geti C0 hW fl_X11_79 rfl rfl dX11_atom_122 ?_
                  obtain ⟨u40, hq⟩ : ∃ y, f_X11_wrong (u36 0 11) u36 = y := ⟨_, rfl⟩
                  replace h := z_lz h hq
                  refine z_cvv (As := [.int (u36 0 11)]) C0 hml hl.1 hW hS (c_X11_wrong l D A b (u36 0 11) u36 hq) mv_X11_104 rfl ⟨(show 0 + 1 ≤ zFA n + 3 by omega), (show 8 + (2 + 11) + (0) ≤ zLA n + 100 by omega)⟩ rfl rfl (Nat.le_of_ble_eq_true rfl) dX11_atom_125 (fun H locs hW hS => ?_)
                  clear hq
                  refine lv_aload_n hx hb dX11_atom_128 rfl (lv_at hl 3 rfl) ?_
                  refine lv_dup hx hb dX11_atom_129 rfl ?_
                  refine z_geti C0 hW fl_X11_79 rfl rfl dX11_atom_130 ?_
                  refine lv_iconst (v := (1 : Int32)) hx hb dX11_atom_133 (by decide) ?_
                  refine lv_iadd hx hb dX11_atom_134 ?_
                  refine z_puti C0 hW hS fl_X11_79 rfl rfl rfl rfl dX11_atom_135 (fun H locs u41 e1 hW hS => ?_)
                  replace h := z_ly h e1
                  clear e1
                  refine lv_aload_n hx hb dX11_atom_138 rfl (lv_at hl 3 rfl) ?_
                  refine lv_dup hx hb dX11_atom_139 rfl ?_
                  refine z_geti C0 hW fl_X11_157 rfl rfl dX11_atom_140 ?_
                  refine lv_iconst (v := (1 : Int32)) hx hb dX11_atom_143 (by decide) ?_
                  refine lv_isub hx hb dX11_atom_144 ?_
                  refine z_puti C0 hW hS fl_X11_157 rfl rfl rfl rfl dX11_atom_145 (fun H locs u42 e1 hW hS => ?_)
                  replace h := z_ly h e1
                  clear e1
                  refine lv_iload_n hx hb dX11_atom_148 rfl (lv_at hl 0 rfl) ?_
                  replace h := z_bd h
                  obtain ⟨t43, hq, h⟩ := h
                  refine z_as (z_b01_eq hq) ?_
                  cases h
                  exact z_zret C0 hr hlk hW hS dX11_atom_149
            · replace h := z_f h hc
              clear hc
              refine lv_aload_n hx hb dX11_atom_72 rfl (lv_at hl 3 rfl) ?_
              replace h := z_bd2 h
              obtain ⟨t44, u45, hq, h⟩ := h
              refine z_cvi (As := []) C0 hml hl.1 hW hS (ih _ _ _ hq) mv_X11_214 rfl ⟨(show zFA n + 1 ≤ zFA n + 3 by omega), (show 8 + (4 + 11) + (zLA n) ≤ zLA n + 100 by omega)⟩ rfl rfl (Nat.le_of_ble_eq_true rfl) dX11_atom_73 (fun H locs hW hS => ?_)
              clear hq
              refine z_ifneZ C0 (tgt := 83) dX11_atom_76 (by decide) (fun hc => ?_) (fun hc => ?_)
              · replace h := z_t h hc
                clear hc
                refine lv_iconst (v := (0 : Int32)) hx hb dX11_atom_83 (by decide) ?_
                refine lv_istore_n (lv' := [(3, .int (0 : Int32)), (2, .int (bI t3)), (1, .int r1), (0, .ref (b + 0))]) hx hb dX11_atom_84 rfl hl (by decide) rfl (fun ls hl => ?_)
                refine lv_goto (tgt := 138) hx hb dX11_atom_85 (by decide) ?_
                refine lv_aload_n hx hb dX11_atom_138 rfl (lv_at hl 3 rfl) ?_
                refine lv_dup hx hb dX11_atom_139 rfl ?_
                refine z_geti C0 hW fl_X11_157 rfl rfl dX11_atom_140 ?_
                refine lv_iconst (v := (1 : Int32)) hx hb dX11_atom_143 (by decide) ?_
                refine lv_isub hx hb dX11_atom_144 ?_
                refine z_puti C0 hW hS fl_X11_157 rfl rfl rfl rfl dX11_atom_145 (fun H locs u46 e1 hW hS => ?_)
                replace h := z_ly h e1
                clear e1
                refine lv_iload_n hx hb dX11_atom_148 rfl (lv_at hl 0 rfl) ?_
                cases h
                exact z_zret (x := false) C0 hr hlk hW hS dX11_atom_149
              · replace h := z_ff h hc
                clear hc
                refine lv_iconst (v := (1 : Int32)) hx hb dX11_atom_79 (by decide) ?_
                refine lv_goto (tgt := 84) hx hb dX11_atom_80 (by decide) ?_
                refine lv_istore_n (lv' := [(3, .int (1 : Int32)), (2, .int (bI t3)), (1, .int r1), (0, .ref (b + 0))]) hx hb dX11_atom_84 rfl hl (by decide) rfl (fun ls hl => ?_)
                refine lv_goto (tgt := 138) hx hb dX11_atom_85 (by decide) ?_
                refine lv_aload_n hx hb dX11_atom_138 rfl (lv_at hl 3 rfl) ?_
                refine lv_dup hx hb dX11_atom_139 rfl ?_
                refine z_geti C0 hW fl_X11_157 rfl rfl dX11_atom_140 ?_
                refine lv_iconst (v := (1 : Int32)) hx hb dX11_atom_143 (by decide) ?_
                refine lv_isub hx hb dX11_atom_144 ?_
                refine z_puti C0 hW hS fl_X11_157 rfl rfl rfl rfl dX11_atom_145 (fun H locs u47 e1 hW hS => ?_)
                replace h := z_ly h e1
                clear e1
                refine lv_iload_n hx hb dX11_atom_148 rfl (lv_at hl 0 rfl) ?_
                cases h
                exact z_zret (x := true) C0 hr hlk hW hS dX11_atom_149
          · replace h := z_t h hc
            clear hc
            refine lv_aload_n hx hb dX11_atom_49 rfl (lv_at hl 2 rfl) ?_
            refine lv_iload_n hx hb dX11_atom_50 rfl (lv_at hl 1 rfl) ?_
            obtain ⟨u48, hq⟩ : ∃ y, f_X11_wrong r1 u27 = y := ⟨_, rfl⟩
            replace h := z_lz h hq
            refine z_cvv (As := [.int r1]) C0 hml hl.1 hW hS (c_X11_wrong l D A b r1 u27 hq) mv_X11_104 rfl ⟨(show 0 + 1 ≤ zFA n + 3 by omega), (show 8 + (2 + 11) + (0) ≤ zLA n + 100 by omega)⟩ rfl rfl (Nat.le_of_ble_eq_true rfl) dX11_atom_51 (fun H locs hW hS => ?_)
            clear hq
            refine lv_iconst (v := (0 : Int32)) hx hb dX11_atom_54 (by decide) ?_
            cases h
            exact z_zret (x := false) C0 hr hlk hW hS dX11_atom_55
        · replace h := z_ff h hc
          clear hc
          refine lv_aload_n hx hb dX11_atom_35 rfl (lv_at hl 2 rfl) ?_
          replace h := z_bd2 h
          obtain ⟨t49, u50, hq, h⟩ := h
          refine z_cvi (As := []) C0 hml hl.1 hW hS (c_X11_plain l D A b u27 hq) mv_X11_210 rfl ⟨(show 7 + 1 ≤ zFA n + 3 by omega), (show 8 + (4 + 11) + (150) ≤ zLA n + 100 by omega)⟩ rfl rfl (Nat.le_of_ble_eq_true rfl) dX11_atom_36 (fun H locs hW hS => ?_)
          clear hq
          cases h
          exact z_zret C0 hr hlk hW hS dX11_atom_39
    · replace h := z_f h hc
      clear hc
      refine lv_iconst (v := (0 : Int32)) hx hb dX11_atom_8 (by decide) ?_
      cases h
      exact z_zret (x := false) C0 hr hlk hW hS dX11_atom_9
def f_X11_lawLine  (u : zU) : Option (zU) :=
  z_b2 (f_X11_has 29 u) (fun t1 u2 => if t1 = true then (z_b2 (f_X11_figures (0 : Int32) (30 : Int32) u2) (fun r28 u29 => if (u29 0 12) = (-1 : Int32) then (z_b2 (f_X11_has 32 u29) (fun t30 u31 => if t30 = true then (z_b2 (f_X11_some (f_X11_atom 8) u31) (fun t34 u35 => if (bI t34) = 0 then (if (u35 0 12) = (-1 : Int32) then (some u35) else (some u35)) else (if (u35 0 17) = 0 then (if (u35 0 12) = (-1 : Int32) then (z_let (z_up u35 0 18 ((u35 0 18) + r28)) (fun u36 => z_let (z_up u36 0 19 ((u36 0 19) + (0 : Int32))) (fun u37 => some u37))) else (some u35)) else (if (u35 0 12) = (-1 : Int32) then (some u35) else (some u35))))) else (if (u31 0 12) = (-1 : Int32) then (z_let (z_up u31 0 18 ((u31 0 18) + r28)) (fun u32 => z_let (z_up u32 0 19 ((u32 0 19) + (0 : Int32))) (fun u33 => some u33))) else (some u31)))) else (some u29))) else (z_b2 (f_X11_has 30 u2) (fun t3 u4 => if t3 = true then (z_b2 (f_X11_figures (0 : Int32) (30 : Int32) u4) (fun r18 u19 => if (u19 0 12) = (-1 : Int32) then (z_b2 (f_X11_has 32 u19) (fun t20 u21 => if t20 = true then (z_b2 (f_X11_some (f_X11_atom 8) u21) (fun t24 u25 => if (bI t24) = 0 then (if (u25 0 12) = (-1 : Int32) then (some u25) else (some u25)) else (if (u25 0 17) = 0 then (if (u25 0 12) = (-1 : Int32) then (z_let (z_up u25 0 18 ((u25 0 18) + (0 : Int32))) (fun u26 => z_let (z_up u26 0 19 ((u26 0 19) + r18)) (fun u27 => some u27))) else (some u25)) else (if (u25 0 12) = (-1 : Int32) then (some u25) else (some u25))))) else (if (u21 0 12) = (-1 : Int32) then (z_let (z_up u21 0 18 ((u21 0 18) + (0 : Int32))) (fun u22 => z_let (z_up u22 0 19 ((u22 0 19) + r18)) (fun u23 => some u23))) else (some u21)))) else (some u19))) else (z_b2 (f_X11_has 31 u4) (fun t5 u6 => if t5 = true then (z_b2 (f_X11_figures (0 : Int32) (30 : Int32) u6) (fun r8 u9 => if (u9 0 12) = (-1 : Int32) then (z_b2 (f_X11_has 32 u9) (fun t10 u11 => if t10 = true then (z_b2 (f_X11_some (f_X11_atom 8) u11) (fun t14 u15 => if (bI t14) = 0 then (if (u15 0 12) = (-1 : Int32) then (some u15) else (some u15)) else (if (u15 0 17) = 0 then (if (u15 0 12) = (-1 : Int32) then (z_let (z_up u15 0 18 ((u15 0 18) + (0 : Int32))) (fun u16 => z_let (z_up u16 0 19 ((u16 0 19) + (-r8))) (fun u17 => some u17))) else (some u15)) else (if (u15 0 12) = (-1 : Int32) then (some u15) else (some u15))))) else (if (u11 0 12) = (-1 : Int32) then (z_let (z_up u11 0 18 ((u11 0 18) + (0 : Int32))) (fun u12 => z_let (z_up u12 0 19 ((u12 0 19) + (-r8))) (fun u13 => some u13))) else (some u11)))) else (some u9))) else (z_let (f_X11_wrong (u6 0 11) u6) (fun u7 => some u7)))))))
theorem f_X11_lawLine_e  (u : zU) : f_X11_lawLine u = z_b2 (f_X11_has 29 u) (fun t1 u2 => if t1 = true then (z_b2 (f_X11_figures (0 : Int32) (30 : Int32) u2) (fun r28 u29 => if (u29 0 12) = (-1 : Int32) then (z_b2 (f_X11_has 32 u29) (fun t30 u31 => if t30 = true then (z_b2 (f_X11_some (f_X11_atom 8) u31) (fun t34 u35 => if (bI t34) = 0 then (if (u35 0 12) = (-1 : Int32) then (some u35) else (some u35)) else (if (u35 0 17) = 0 then (if (u35 0 12) = (-1 : Int32) then (z_let (z_up u35 0 18 ((u35 0 18) + r28)) (fun u36 => z_let (z_up u36 0 19 ((u36 0 19) + (0 : Int32))) (fun u37 => some u37))) else (some u35)) else (if (u35 0 12) = (-1 : Int32) then (some u35) else (some u35))))) else (if (u31 0 12) = (-1 : Int32) then (z_let (z_up u31 0 18 ((u31 0 18) + r28)) (fun u32 => z_let (z_up u32 0 19 ((u32 0 19) + (0 : Int32))) (fun u33 => some u33))) else (some u31)))) else (some u29))) else (z_b2 (f_X11_has 30 u2) (fun t3 u4 => if t3 = true then (z_b2 (f_X11_figures (0 : Int32) (30 : Int32) u4) (fun r18 u19 => if (u19 0 12) = (-1 : Int32) then (z_b2 (f_X11_has 32 u19) (fun t20 u21 => if t20 = true then (z_b2 (f_X11_some (f_X11_atom 8) u21) (fun t24 u25 => if (bI t24) = 0 then (if (u25 0 12) = (-1 : Int32) then (some u25) else (some u25)) else (if (u25 0 17) = 0 then (if (u25 0 12) = (-1 : Int32) then (z_let (z_up u25 0 18 ((u25 0 18) + (0 : Int32))) (fun u26 => z_let (z_up u26 0 19 ((u26 0 19) + r18)) (fun u27 => some u27))) else (some u25)) else (if (u25 0 12) = (-1 : Int32) then (some u25) else (some u25))))) else (if (u21 0 12) = (-1 : Int32) then (z_let (z_up u21 0 18 ((u21 0 18) + (0 : Int32))) (fun u22 => z_let (z_up u22 0 19 ((u22 0 19) + r18)) (fun u23 => some u23))) else (some u21)))) else (some u19))) else (z_b2 (f_X11_has 31 u4) (fun t5 u6 => if t5 = true then (z_b2 (f_X11_figures (0 : Int32) (30 : Int32) u6) (fun r8 u9 => if (u9 0 12) = (-1 : Int32) then (z_b2 (f_X11_has 32 u9) (fun t10 u11 => if t10 = true then (z_b2 (f_X11_some (f_X11_atom 8) u11) (fun t14 u15 => if (bI t14) = 0 then (if (u15 0 12) = (-1 : Int32) then (some u15) else (some u15)) else (if (u15 0 17) = 0 then (if (u15 0 12) = (-1 : Int32) then (z_let (z_up u15 0 18 ((u15 0 18) + (0 : Int32))) (fun u16 => z_let (z_up u16 0 19 ((u16 0 19) + (-r8))) (fun u17 => some u17))) else (some u15)) else (if (u15 0 12) = (-1 : Int32) then (some u15) else (some u15))))) else (if (u11 0 12) = (-1 : Int32) then (z_let (z_up u11 0 18 ((u11 0 18) + (0 : Int32))) (fun u12 => z_let (z_up u12 0 19 ((u12 0 19) + (-r8))) (fun u13 => some u13))) else (some u11)))) else (some u9))) else (z_let (f_X11_wrong (u6 0 11) u6) (fun u7 => some u7))))))) := rfl
set_option maxRecDepth 100000 in
set_option maxHeartbeats 4000000 in
theorem c_X11_lawLine (l : Launch) (D : zD) (A : Nat → Prop) (b : Nat)  (u : zU) {u' : zU} (h : f_X11_lawLine u = some u') : z_M l D A b gM yX11_lawLine cX11_lawLine 4 none 39 1282 [.ref (b + 0)] u none u' := by
  refine z_enter (by decide) (Nat.le_of_ble_eq_true rfl) ?_
  intro p e s m below meth c ls C0 hr hml hlk hW hS hl
  have hl : lv_has ls 4 [(0, .ref (b + 0))] := hl
  have hx := C0.1
  have hb := C0.2.1
  rw [f_X11_lawLine_e] at h
  refine lv_aload_n hx hb dX11_lawLine_0 rfl (lv_at hl 0 rfl) ?_
  refine z_ldcS (k := 29) (tx := "go") C0 (List.mem_of_getElem? (i := 70) rfl) dX11_lawLine_1 ?_
  replace h := z_bd2 h
  obtain ⟨t1, u2, hq, h⟩ := h
  refine z_cvi (As := [.ref (sA D 29)]) C0 hml hl.1 hW hS (c_X11_has l D A b 29 (by decide) u hq) mv_X11_108 rfl ⟨Nat.le_of_ble_eq_true rfl, Nat.le_of_ble_eq_true rfl⟩ rfl rfl (Nat.le_of_ble_eq_true rfl) dX11_lawLine_3 (fun H locs hW hS => ?_)
  clear hq
  refine z_ifeqZ C0 (tgt := 13) dX11_lawLine_6 (by decide) (fun hc => ?_) (fun hc => ?_)
  · replace h := z_ff h hc
    clear hc
    refine lv_aload_n hx hb dX11_lawLine_13 rfl (lv_at hl 0 rfl) ?_
    refine z_ldcS (k := 30) (tx := "more") C0 (List.mem_of_getElem? (i := 71) rfl) dX11_lawLine_14 ?_
    replace h := z_bd2 h
    obtain ⟨t3, u4, hq, h⟩ := h
    refine z_cvi (As := [.ref (sA D 30)]) C0 hml hl.1 hW hS (c_X11_has l D A b 30 (by decide) u2 hq) mv_X11_108 rfl ⟨Nat.le_of_ble_eq_true rfl, Nat.le_of_ble_eq_true rfl⟩ rfl rfl (Nat.le_of_ble_eq_true rfl) dX11_lawLine_16 (fun H locs hW hS => ?_)
    clear hq
    refine z_ifeqZ C0 (tgt := 26) dX11_lawLine_19 (by decide) (fun hc => ?_) (fun hc => ?_)
    · replace h := z_ff h hc
      clear hc
      refine lv_aload_n hx hb dX11_lawLine_26 rfl (lv_at hl 0 rfl) ?_
      refine z_ldcS (k := 31) (tx := "less") C0 (List.mem_of_getElem? (i := 72) rfl) dX11_lawLine_27 ?_
      replace h := z_bd2 h
      obtain ⟨t5, u6, hq, h⟩ := h
      refine z_cvi (As := [.ref (sA D 31)]) C0 hml hl.1 hW hS (c_X11_has l D A b 31 (by decide) u4 hq) mv_X11_108 rfl ⟨Nat.le_of_ble_eq_true rfl, Nat.le_of_ble_eq_true rfl⟩ rfl rfl (Nat.le_of_ble_eq_true rfl) dX11_lawLine_29 (fun H locs hW hS => ?_)
      clear hq
      refine z_ifeqZ C0 (tgt := 39) dX11_lawLine_32 (by decide) (fun hc => ?_) (fun hc => ?_)
      · replace h := z_ff h hc
        clear hc
        refine lv_iconst (v := (-1 : Int32)) hx hb dX11_lawLine_39 (by decide) ?_
        refine lv_istore_n (lv' := [(1, .int (-1 : Int32)), (0, .ref (b + 0))]) hx hb dX11_lawLine_40 rfl hl (by decide) rfl (fun ls hl => ?_)
        refine lv_iload_n hx hb dX11_lawLine_41 rfl (lv_at hl 0 rfl) ?_
        refine lv_iconst (v := (-1 : Int32)) hx hb dX11_lawLine_42 (by decide) ?_
        refine lv_icmp_ne (tgt := 55) hx hb dX11_lawLine_43 (by decide) (fun hc => ?_) (fun hc => ?_)
        · exact absurd hc (by decide)
        · clear hc
          refine lv_aload_n hx hb dX11_lawLine_46 rfl (lv_at hl 1 rfl) ?_
          refine lv_aload_n hx hb dX11_lawLine_47 rfl (lv_at hl 1 rfl) ?_
          refine z_geti C0 hW fl_X11_79 rfl rfl dX11_lawLine_48 ?_
          obtain ⟨u7, hq⟩ : ∃ y, f_X11_wrong (u6 0 11) u6 = y := ⟨_, rfl⟩
          replace h := z_lz h hq
          refine z_cvv (As := [.int (u6 0 11)]) C0 hml hl.1 hW hS (c_X11_wrong l D A b (u6 0 11) u6 hq) mv_X11_104 rfl ⟨Nat.le_of_ble_eq_true rfl, Nat.le_of_ble_eq_true rfl⟩ rfl rfl (Nat.le_of_ble_eq_true rfl) dX11_lawLine_51 (fun H locs hW hS => ?_)
          clear hq
          cases h
          exact z_vret C0 hr hlk hW hS dX11_lawLine_54
      · replace h := z_t h hc
        clear hc
        refine lv_iconst (v := (2 : Int32)) hx hb dX11_lawLine_35 (by decide) ?_
        refine lv_goto (tgt := 40) hx hb dX11_lawLine_36 (by decide) ?_
        refine lv_istore_n (lv' := [(1, .int (2 : Int32)), (0, .ref (b + 0))]) hx hb dX11_lawLine_40 rfl hl (by decide) rfl (fun ls hl => ?_)
        refine lv_iload_n hx hb dX11_lawLine_41 rfl (lv_at hl 0 rfl) ?_
        refine lv_iconst (v := (-1 : Int32)) hx hb dX11_lawLine_42 (by decide) ?_
        refine lv_icmp_ne (tgt := 55) hx hb dX11_lawLine_43 (by decide) (fun hc => ?_) (fun hc => ?_)
        · clear hc
          refine lv_aload_n hx hb dX11_lawLine_55 rfl (lv_at hl 1 rfl) ?_
          refine lv_iconst (v := (0 : Int32)) hx hb dX11_lawLine_56 (by decide) ?_
          refine lv_bipush (v := (30 : Int32)) hx hb dX11_lawLine_57 (by decide) ?_
          replace h := z_bd2 h
          obtain ⟨r8, u9, hq, h⟩ := h
          refine z_cvi (As := [.int (0 : Int32), .int (30 : Int32)]) C0 hml hl.1 hW hS (c_X11_figures l D A b (0 : Int32) (30 : Int32) u6 hq) mv_X11_112 rfl ⟨Nat.le_of_ble_eq_true rfl, Nat.le_of_ble_eq_true rfl⟩ rfl rfl (Nat.le_of_ble_eq_true rfl) dX11_lawLine_59 (fun H locs hW hS => ?_)
          clear hq
          refine lv_istore_n (lv' := [(2, .int r8), (1, .int (2 : Int32)), (0, .ref (b + 0))]) hx hb dX11_lawLine_62 rfl hl (by decide) rfl (fun ls hl => ?_)
          refine lv_aload_n hx hb dX11_lawLine_63 rfl (lv_at hl 2 rfl) ?_
          refine z_geti C0 hW fl_X11_25 rfl rfl dX11_lawLine_64 ?_
          refine lv_iconst (v := (-1 : Int32)) hx hb dX11_lawLine_67 (by decide) ?_
          refine lv_icmp_eq (tgt := 72) hx hb dX11_lawLine_68 (by decide) (fun hc => ?_) (fun hc => ?_)
          · replace h := z_t h hc
            clear hc
            refine lv_iconst (v := (1 : Int32)) hx hb dX11_lawLine_72 (by decide) ?_
            refine lv_istore_n (lv' := [(3, .int (1 : Int32)), (2, .int r8), (1, .int (2 : Int32)), (0, .ref (b + 0))]) hx hb dX11_lawLine_73 rfl hl (by decide) rfl (fun ls hl => ?_)
            refine lv_aload_n hx hb dX11_lawLine_74 rfl (lv_at hl 3 rfl) ?_
            refine z_ldcS (k := 32) (tx := "if") C0 (List.mem_of_getElem? (i := 73) rfl) dX11_lawLine_75 ?_
            replace h := z_bd2 h
            obtain ⟨t10, u11, hq, h⟩ := h
            refine z_cvi (As := [.ref (sA D 32)]) C0 hml hl.1 hW hS (c_X11_has l D A b 32 (by decide) u9 hq) mv_X11_108 rfl ⟨Nat.le_of_ble_eq_true rfl, Nat.le_of_ble_eq_true rfl⟩ rfl rfl (Nat.le_of_ble_eq_true rfl) dX11_lawLine_77 (fun H locs hW hS => ?_)
            clear hq
            refine z_ifeqZ C0 (tgt := 105) dX11_lawLine_80 (by decide) (fun hc => ?_) (fun hc => ?_)
            · replace h := z_ff h hc
              clear hc
              refine lv_aload_n hx hb dX11_lawLine_105 rfl (lv_at hl 3 rfl) ?_
              refine z_geti C0 hW fl_X11_25 rfl rfl dX11_lawLine_106 ?_
              refine lv_iconst (v := (-1 : Int32)) hx hb dX11_lawLine_109 (by decide) ?_
              refine lv_icmp_ne (tgt := 117) hx hb dX11_lawLine_110 (by decide) (fun hc => ?_) (fun hc => ?_)
              · replace h := z_f h hc
                clear hc
                cases h
                exact z_vret C0 hr hlk hW hS dX11_lawLine_117
              · replace h := z_t h hc
                clear hc
                refine lv_iload_n hx hb dX11_lawLine_113 rfl (lv_at hl 0 rfl) ?_
                refine lv_if_ne (tgt := 118) hx hb dX11_lawLine_114 (by decide) (fun hc => ?_) (fun hc => ?_)
                · clear hc
                  refine lv_aload_n hx hb dX11_lawLine_118 rfl (lv_at hl 3 rfl) ?_
                  refine lv_dup hx hb dX11_lawLine_119 rfl ?_
                  refine z_geti C0 hW fl_X11_238 rfl rfl dX11_lawLine_120 ?_
                  refine lv_iload_n hx hb dX11_lawLine_123 rfl (lv_at hl 2 rfl) ?_
                  refine lv_if_ne (tgt := 131) hx hb dX11_lawLine_124 (by decide) (fun hc => ?_) (fun hc => ?_)
                  · clear hc
                    refine lv_iconst (v := (0 : Int32)) hx hb dX11_lawLine_131 (by decide) ?_
                    refine lv_iadd hx hb dX11_lawLine_132 ?_
                    refine z_puti C0 hW hS fl_X11_238 rfl rfl rfl rfl dX11_lawLine_133 (fun H locs u12 e1 hW hS => ?_)
                    replace h := z_ly h e1
                    clear e1
                    refine lv_aload_n hx hb dX11_lawLine_136 rfl (lv_at hl 3 rfl) ?_
                    refine lv_dup hx hb dX11_lawLine_137 rfl ?_
                    refine z_geti C0 hW fl_X11_241 rfl rfl dX11_lawLine_138 ?_
                    refine lv_iload_n hx hb dX11_lawLine_141 rfl (lv_at hl 2 rfl) ?_
                    refine lv_iconst (v := (1 : Int32)) hx hb dX11_lawLine_142 (by decide) ?_
                    refine lv_icmp_ne (tgt := 150) hx hb dX11_lawLine_143 (by decide) (fun hc => ?_) (fun hc => ?_)
                    · clear hc
                      refine lv_iload_n hx hb dX11_lawLine_150 rfl (lv_at hl 2 rfl) ?_
                      refine lv_iconst (v := (2 : Int32)) hx hb dX11_lawLine_151 (by decide) ?_
                      refine lv_icmp_ne (tgt := 160) hx hb dX11_lawLine_152 (by decide) (fun hc => ?_) (fun hc => ?_)
                      · exact absurd hc (by decide)
                      · clear hc
                        refine lv_iload_n hx hb dX11_lawLine_155 rfl (lv_at hl 1 rfl) ?_
                        refine lv_ineg hx hb dX11_lawLine_156 ?_
                        refine lv_goto (tgt := 161) hx hb dX11_lawLine_157 (by decide) ?_
                        refine lv_iadd hx hb dX11_lawLine_161 ?_
                        refine z_puti C0 hW hS fl_X11_241 rfl rfl rfl rfl dX11_lawLine_162 (fun H locs u13 e1 hW hS => ?_)
                        replace h := z_ly h e1
                        clear e1
                        cases h
                        exact z_vret C0 hr hlk hW hS dX11_lawLine_165
                    · exact absurd hc (by decide)
                  · exact absurd hc (by decide)
                · exact absurd hc (by decide)
            · replace h := z_t h hc
              clear hc
              refine lv_aload_n hx hb dX11_lawLine_83 rfl (lv_at hl 3 rfl) ?_
              replace h := z_bd2 h
              obtain ⟨t14, u15, hq, h⟩ := h
              refine z_cvi (As := []) C0 hml hl.1 hW hS (c_X11_some l D A b (fr := zFA 8) (lo := zLA 8) (by decide) (by decide) (fun q0 q1 q2 h => c_X11_atom l D A b 8 q0 q1 q2 h) u11 hq) mv_X11_217 rfl ⟨Nat.le_of_ble_eq_true rfl, Nat.le_of_ble_eq_true rfl⟩ rfl rfl (Nat.le_of_ble_eq_true rfl) dX11_lawLine_84 (fun H locs hW hS => ?_)
              clear hq
              refine lv_istore_n (lv' := [(3, .int (bI t14)), (2, .int r8), (1, .int (2 : Int32)), (0, .ref (b + 0))]) hx hb dX11_lawLine_87 rfl hl (by decide) rfl (fun ls hl => ?_)
              refine lv_iload_n hx hb dX11_lawLine_88 rfl (lv_at hl 0 rfl) ?_
              refine lv_if_eq (tgt := 103) hx hb dX11_lawLine_89 (by decide) (fun hc => ?_) (fun hc => ?_)
              · replace h := z_t h hc
                clear hc
                refine lv_iconst (v := (0 : Int32)) hx hb dX11_lawLine_103 (by decide) ?_
                refine lv_istore_n (lv' := [(3, .int (0 : Int32)), (2, .int r8), (1, .int (2 : Int32)), (0, .ref (b + 0))]) hx hb dX11_lawLine_104 rfl hl (by decide) rfl (fun ls hl => ?_)
                refine lv_aload_n hx hb dX11_lawLine_105 rfl (lv_at hl 3 rfl) ?_
                refine z_geti C0 hW fl_X11_25 rfl rfl dX11_lawLine_106 ?_
                refine lv_iconst (v := (-1 : Int32)) hx hb dX11_lawLine_109 (by decide) ?_
                refine lv_icmp_ne (tgt := 117) hx hb dX11_lawLine_110 (by decide) (fun hc => ?_) (fun hc => ?_)
                · replace h := z_f h hc
                  clear hc
                  cases h
                  exact z_vret C0 hr hlk hW hS dX11_lawLine_117
                · replace h := z_t h hc
                  clear hc
                  refine lv_iload_n hx hb dX11_lawLine_113 rfl (lv_at hl 0 rfl) ?_
                  refine lv_if_ne (tgt := 118) hx hb dX11_lawLine_114 (by decide) (fun hc => ?_) (fun hc => ?_)
                  · exact absurd hc (by decide)
                  · clear hc
                    cases h
                    exact z_vret C0 hr hlk hW hS dX11_lawLine_117
              · replace h := z_f h hc
                clear hc
                refine lv_aload_n hx hb dX11_lawLine_92 rfl (lv_at hl 3 rfl) ?_
                refine z_geti C0 hW fl_X11_235 rfl rfl dX11_lawLine_93 ?_
                refine lv_if_ne (tgt := 103) hx hb dX11_lawLine_96 (by decide) (fun hc => ?_) (fun hc => ?_)
                · replace h := z_f h hc
                  clear hc
                  refine lv_iconst (v := (0 : Int32)) hx hb dX11_lawLine_103 (by decide) ?_
                  refine lv_istore_n (lv' := [(3, .int (0 : Int32)), (2, .int r8), (1, .int (2 : Int32)), (0, .ref (b + 0))]) hx hb dX11_lawLine_104 rfl hl (by decide) rfl (fun ls hl => ?_)
                  refine lv_aload_n hx hb dX11_lawLine_105 rfl (lv_at hl 3 rfl) ?_
                  refine z_geti C0 hW fl_X11_25 rfl rfl dX11_lawLine_106 ?_
                  refine lv_iconst (v := (-1 : Int32)) hx hb dX11_lawLine_109 (by decide) ?_
                  refine lv_icmp_ne (tgt := 117) hx hb dX11_lawLine_110 (by decide) (fun hc => ?_) (fun hc => ?_)
                  · replace h := z_f h hc
                    clear hc
                    cases h
                    exact z_vret C0 hr hlk hW hS dX11_lawLine_117
                  · replace h := z_t h hc
                    clear hc
                    refine lv_iload_n hx hb dX11_lawLine_113 rfl (lv_at hl 0 rfl) ?_
                    refine lv_if_ne (tgt := 118) hx hb dX11_lawLine_114 (by decide) (fun hc => ?_) (fun hc => ?_)
                    · exact absurd hc (by decide)
                    · clear hc
                      cases h
                      exact z_vret C0 hr hlk hW hS dX11_lawLine_117
                · replace h := z_t h hc
                  clear hc
                  refine lv_iconst (v := (1 : Int32)) hx hb dX11_lawLine_99 (by decide) ?_
                  refine lv_goto (tgt := 104) hx hb dX11_lawLine_100 (by decide) ?_
                  refine lv_istore_n (lv' := [(3, .int (1 : Int32)), (2, .int r8), (1, .int (2 : Int32)), (0, .ref (b + 0))]) hx hb dX11_lawLine_104 rfl hl (by decide) rfl (fun ls hl => ?_)
                  refine lv_aload_n hx hb dX11_lawLine_105 rfl (lv_at hl 3 rfl) ?_
                  refine z_geti C0 hW fl_X11_25 rfl rfl dX11_lawLine_106 ?_
                  refine lv_iconst (v := (-1 : Int32)) hx hb dX11_lawLine_109 (by decide) ?_
                  refine lv_icmp_ne (tgt := 117) hx hb dX11_lawLine_110 (by decide) (fun hc => ?_) (fun hc => ?_)
                  · replace h := z_f h hc
                    clear hc
                    cases h
                    exact z_vret C0 hr hlk hW hS dX11_lawLine_117
                  · replace h := z_t h hc
                    clear hc
                    refine lv_iload_n hx hb dX11_lawLine_113 rfl (lv_at hl 0 rfl) ?_
                    refine lv_if_ne (tgt := 118) hx hb dX11_lawLine_114 (by decide) (fun hc => ?_) (fun hc => ?_)
                    · clear hc
                      refine lv_aload_n hx hb dX11_lawLine_118 rfl (lv_at hl 3 rfl) ?_
                      refine lv_dup hx hb dX11_lawLine_119 rfl ?_
                      refine z_geti C0 hW fl_X11_238 rfl rfl dX11_lawLine_120 ?_
                      refine lv_iload_n hx hb dX11_lawLine_123 rfl (lv_at hl 2 rfl) ?_
                      refine lv_if_ne (tgt := 131) hx hb dX11_lawLine_124 (by decide) (fun hc => ?_) (fun hc => ?_)
                      · clear hc
                        refine lv_iconst (v := (0 : Int32)) hx hb dX11_lawLine_131 (by decide) ?_
                        refine lv_iadd hx hb dX11_lawLine_132 ?_
                        refine z_puti C0 hW hS fl_X11_238 rfl rfl rfl rfl dX11_lawLine_133 (fun H locs u16 e1 hW hS => ?_)
                        replace h := z_ly h e1
                        clear e1
                        refine lv_aload_n hx hb dX11_lawLine_136 rfl (lv_at hl 3 rfl) ?_
                        refine lv_dup hx hb dX11_lawLine_137 rfl ?_
                        refine z_geti C0 hW fl_X11_241 rfl rfl dX11_lawLine_138 ?_
                        refine lv_iload_n hx hb dX11_lawLine_141 rfl (lv_at hl 2 rfl) ?_
                        refine lv_iconst (v := (1 : Int32)) hx hb dX11_lawLine_142 (by decide) ?_
                        refine lv_icmp_ne (tgt := 150) hx hb dX11_lawLine_143 (by decide) (fun hc => ?_) (fun hc => ?_)
                        · clear hc
                          refine lv_iload_n hx hb dX11_lawLine_150 rfl (lv_at hl 2 rfl) ?_
                          refine lv_iconst (v := (2 : Int32)) hx hb dX11_lawLine_151 (by decide) ?_
                          refine lv_icmp_ne (tgt := 160) hx hb dX11_lawLine_152 (by decide) (fun hc => ?_) (fun hc => ?_)
                          · exact absurd hc (by decide)
                          · clear hc
                            refine lv_iload_n hx hb dX11_lawLine_155 rfl (lv_at hl 1 rfl) ?_
                            refine lv_ineg hx hb dX11_lawLine_156 ?_
                            refine lv_goto (tgt := 161) hx hb dX11_lawLine_157 (by decide) ?_
                            refine lv_iadd hx hb dX11_lawLine_161 ?_
                            refine z_puti C0 hW hS fl_X11_241 rfl rfl rfl rfl dX11_lawLine_162 (fun H locs u17 e1 hW hS => ?_)
                            replace h := z_ly h e1
                            clear e1
                            cases h
                            exact z_vret C0 hr hlk hW hS dX11_lawLine_165
                        · exact absurd hc (by decide)
                      · exact absurd hc (by decide)
                    · exact absurd hc (by decide)
          · replace h := z_f h hc
            clear hc
            cases h
            exact z_vret C0 hr hlk hW hS dX11_lawLine_71
        · exact absurd hc (by decide)
    · replace h := z_t h hc
      clear hc
      refine lv_iconst (v := (1 : Int32)) hx hb dX11_lawLine_22 (by decide) ?_
      refine lv_goto (tgt := 40) hx hb dX11_lawLine_23 (by decide) ?_
      refine lv_istore_n (lv' := [(1, .int (1 : Int32)), (0, .ref (b + 0))]) hx hb dX11_lawLine_40 rfl hl (by decide) rfl (fun ls hl => ?_)
      refine lv_iload_n hx hb dX11_lawLine_41 rfl (lv_at hl 0 rfl) ?_
      refine lv_iconst (v := (-1 : Int32)) hx hb dX11_lawLine_42 (by decide) ?_
      refine lv_icmp_ne (tgt := 55) hx hb dX11_lawLine_43 (by decide) (fun hc => ?_) (fun hc => ?_)
      · clear hc
        refine lv_aload_n hx hb dX11_lawLine_55 rfl (lv_at hl 1 rfl) ?_
        refine lv_iconst (v := (0 : Int32)) hx hb dX11_lawLine_56 (by decide) ?_
        refine lv_bipush (v := (30 : Int32)) hx hb dX11_lawLine_57 (by decide) ?_
        replace h := z_bd2 h
        obtain ⟨r18, u19, hq, h⟩ := h
        refine z_cvi (As := [.int (0 : Int32), .int (30 : Int32)]) C0 hml hl.1 hW hS (c_X11_figures l D A b (0 : Int32) (30 : Int32) u4 hq) mv_X11_112 rfl ⟨Nat.le_of_ble_eq_true rfl, Nat.le_of_ble_eq_true rfl⟩ rfl rfl (Nat.le_of_ble_eq_true rfl) dX11_lawLine_59 (fun H locs hW hS => ?_)
        clear hq
        refine lv_istore_n (lv' := [(2, .int r18), (1, .int (1 : Int32)), (0, .ref (b + 0))]) hx hb dX11_lawLine_62 rfl hl (by decide) rfl (fun ls hl => ?_)
        refine lv_aload_n hx hb dX11_lawLine_63 rfl (lv_at hl 2 rfl) ?_
        refine z_geti C0 hW fl_X11_25 rfl rfl dX11_lawLine_64 ?_
        refine lv_iconst (v := (-1 : Int32)) hx hb dX11_lawLine_67 (by decide) ?_
        refine lv_icmp_eq (tgt := 72) hx hb dX11_lawLine_68 (by decide) (fun hc => ?_) (fun hc => ?_)
        · replace h := z_t h hc
          clear hc
          refine lv_iconst (v := (1 : Int32)) hx hb dX11_lawLine_72 (by decide) ?_
          refine lv_istore_n (lv' := [(3, .int (1 : Int32)), (2, .int r18), (1, .int (1 : Int32)), (0, .ref (b + 0))]) hx hb dX11_lawLine_73 rfl hl (by decide) rfl (fun ls hl => ?_)
          refine lv_aload_n hx hb dX11_lawLine_74 rfl (lv_at hl 3 rfl) ?_
          refine z_ldcS (k := 32) (tx := "if") C0 (List.mem_of_getElem? (i := 73) rfl) dX11_lawLine_75 ?_
          replace h := z_bd2 h
          obtain ⟨t20, u21, hq, h⟩ := h
          refine z_cvi (As := [.ref (sA D 32)]) C0 hml hl.1 hW hS (c_X11_has l D A b 32 (by decide) u19 hq) mv_X11_108 rfl ⟨Nat.le_of_ble_eq_true rfl, Nat.le_of_ble_eq_true rfl⟩ rfl rfl (Nat.le_of_ble_eq_true rfl) dX11_lawLine_77 (fun H locs hW hS => ?_)
          clear hq
          refine z_ifeqZ C0 (tgt := 105) dX11_lawLine_80 (by decide) (fun hc => ?_) (fun hc => ?_)
          · replace h := z_ff h hc
            clear hc
            refine lv_aload_n hx hb dX11_lawLine_105 rfl (lv_at hl 3 rfl) ?_
            refine z_geti C0 hW fl_X11_25 rfl rfl dX11_lawLine_106 ?_
            refine lv_iconst (v := (-1 : Int32)) hx hb dX11_lawLine_109 (by decide) ?_
            refine lv_icmp_ne (tgt := 117) hx hb dX11_lawLine_110 (by decide) (fun hc => ?_) (fun hc => ?_)
            · replace h := z_f h hc
              clear hc
              cases h
              exact z_vret C0 hr hlk hW hS dX11_lawLine_117
            · replace h := z_t h hc
              clear hc
              refine lv_iload_n hx hb dX11_lawLine_113 rfl (lv_at hl 0 rfl) ?_
              refine lv_if_ne (tgt := 118) hx hb dX11_lawLine_114 (by decide) (fun hc => ?_) (fun hc => ?_)
              · clear hc
                refine lv_aload_n hx hb dX11_lawLine_118 rfl (lv_at hl 3 rfl) ?_
                refine lv_dup hx hb dX11_lawLine_119 rfl ?_
                refine z_geti C0 hW fl_X11_238 rfl rfl dX11_lawLine_120 ?_
                refine lv_iload_n hx hb dX11_lawLine_123 rfl (lv_at hl 2 rfl) ?_
                refine lv_if_ne (tgt := 131) hx hb dX11_lawLine_124 (by decide) (fun hc => ?_) (fun hc => ?_)
                · clear hc
                  refine lv_iconst (v := (0 : Int32)) hx hb dX11_lawLine_131 (by decide) ?_
                  refine lv_iadd hx hb dX11_lawLine_132 ?_
                  refine z_puti C0 hW hS fl_X11_238 rfl rfl rfl rfl dX11_lawLine_133 (fun H locs u22 e1 hW hS => ?_)
                  replace h := z_ly h e1
                  clear e1
                  refine lv_aload_n hx hb dX11_lawLine_136 rfl (lv_at hl 3 rfl) ?_
                  refine lv_dup hx hb dX11_lawLine_137 rfl ?_
                  refine z_geti C0 hW fl_X11_241 rfl rfl dX11_lawLine_138 ?_
                  refine lv_iload_n hx hb dX11_lawLine_141 rfl (lv_at hl 2 rfl) ?_
                  refine lv_iconst (v := (1 : Int32)) hx hb dX11_lawLine_142 (by decide) ?_
                  refine lv_icmp_ne (tgt := 150) hx hb dX11_lawLine_143 (by decide) (fun hc => ?_) (fun hc => ?_)
                  · exact absurd hc (by decide)
                  · clear hc
                    refine lv_iload_n hx hb dX11_lawLine_146 rfl (lv_at hl 1 rfl) ?_
                    refine lv_goto (tgt := 161) hx hb dX11_lawLine_147 (by decide) ?_
                    refine lv_iadd hx hb dX11_lawLine_161 ?_
                    refine z_puti C0 hW hS fl_X11_241 rfl rfl rfl rfl dX11_lawLine_162 (fun H locs u23 e1 hW hS => ?_)
                    replace h := z_ly h e1
                    clear e1
                    cases h
                    exact z_vret C0 hr hlk hW hS dX11_lawLine_165
                · exact absurd hc (by decide)
              · exact absurd hc (by decide)
          · replace h := z_t h hc
            clear hc
            refine lv_aload_n hx hb dX11_lawLine_83 rfl (lv_at hl 3 rfl) ?_
            replace h := z_bd2 h
            obtain ⟨t24, u25, hq, h⟩ := h
            refine z_cvi (As := []) C0 hml hl.1 hW hS (c_X11_some l D A b (fr := zFA 8) (lo := zLA 8) (by decide) (by decide) (fun q0 q1 q2 h => c_X11_atom l D A b 8 q0 q1 q2 h) u21 hq) mv_X11_217 rfl ⟨Nat.le_of_ble_eq_true rfl, Nat.le_of_ble_eq_true rfl⟩ rfl rfl (Nat.le_of_ble_eq_true rfl) dX11_lawLine_84 (fun H locs hW hS => ?_)
            clear hq
            refine lv_istore_n (lv' := [(3, .int (bI t24)), (2, .int r18), (1, .int (1 : Int32)), (0, .ref (b + 0))]) hx hb dX11_lawLine_87 rfl hl (by decide) rfl (fun ls hl => ?_)
            refine lv_iload_n hx hb dX11_lawLine_88 rfl (lv_at hl 0 rfl) ?_
            refine lv_if_eq (tgt := 103) hx hb dX11_lawLine_89 (by decide) (fun hc => ?_) (fun hc => ?_)
            · replace h := z_t h hc
              clear hc
              refine lv_iconst (v := (0 : Int32)) hx hb dX11_lawLine_103 (by decide) ?_
              refine lv_istore_n (lv' := [(3, .int (0 : Int32)), (2, .int r18), (1, .int (1 : Int32)), (0, .ref (b + 0))]) hx hb dX11_lawLine_104 rfl hl (by decide) rfl (fun ls hl => ?_)
              refine lv_aload_n hx hb dX11_lawLine_105 rfl (lv_at hl 3 rfl) ?_
              refine z_geti C0 hW fl_X11_25 rfl rfl dX11_lawLine_106 ?_
              refine lv_iconst (v := (-1 : Int32)) hx hb dX11_lawLine_109 (by decide) ?_
              refine lv_icmp_ne (tgt := 117) hx hb dX11_lawLine_110 (by decide) (fun hc => ?_) (fun hc => ?_)
              · replace h := z_f h hc
                clear hc
                cases h
                exact z_vret C0 hr hlk hW hS dX11_lawLine_117
              · replace h := z_t h hc
                clear hc
                refine lv_iload_n hx hb dX11_lawLine_113 rfl (lv_at hl 0 rfl) ?_
                refine lv_if_ne (tgt := 118) hx hb dX11_lawLine_114 (by decide) (fun hc => ?_) (fun hc => ?_)
                · exact absurd hc (by decide)
                · clear hc
                  cases h
                  exact z_vret C0 hr hlk hW hS dX11_lawLine_117
            · replace h := z_f h hc
              clear hc
              refine lv_aload_n hx hb dX11_lawLine_92 rfl (lv_at hl 3 rfl) ?_
              refine z_geti C0 hW fl_X11_235 rfl rfl dX11_lawLine_93 ?_
              refine lv_if_ne (tgt := 103) hx hb dX11_lawLine_96 (by decide) (fun hc => ?_) (fun hc => ?_)
              · replace h := z_f h hc
                clear hc
                refine lv_iconst (v := (0 : Int32)) hx hb dX11_lawLine_103 (by decide) ?_
                refine lv_istore_n (lv' := [(3, .int (0 : Int32)), (2, .int r18), (1, .int (1 : Int32)), (0, .ref (b + 0))]) hx hb dX11_lawLine_104 rfl hl (by decide) rfl (fun ls hl => ?_)
                refine lv_aload_n hx hb dX11_lawLine_105 rfl (lv_at hl 3 rfl) ?_
                refine z_geti C0 hW fl_X11_25 rfl rfl dX11_lawLine_106 ?_
                refine lv_iconst (v := (-1 : Int32)) hx hb dX11_lawLine_109 (by decide) ?_
                refine lv_icmp_ne (tgt := 117) hx hb dX11_lawLine_110 (by decide) (fun hc => ?_) (fun hc => ?_)
                · replace h := z_f h hc
                  clear hc
                  cases h
                  exact z_vret C0 hr hlk hW hS dX11_lawLine_117
                · replace h := z_t h hc
                  clear hc
                  refine lv_iload_n hx hb dX11_lawLine_113 rfl (lv_at hl 0 rfl) ?_
                  refine lv_if_ne (tgt := 118) hx hb dX11_lawLine_114 (by decide) (fun hc => ?_) (fun hc => ?_)
                  · exact absurd hc (by decide)
                  · clear hc
                    cases h
                    exact z_vret C0 hr hlk hW hS dX11_lawLine_117
              · replace h := z_t h hc
                clear hc
                refine lv_iconst (v := (1 : Int32)) hx hb dX11_lawLine_99 (by decide) ?_
                refine lv_goto (tgt := 104) hx hb dX11_lawLine_100 (by decide) ?_
                refine lv_istore_n (lv' := [(3, .int (1 : Int32)), (2, .int r18), (1, .int (1 : Int32)), (0, .ref (b + 0))]) hx hb dX11_lawLine_104 rfl hl (by decide) rfl (fun ls hl => ?_)
                refine lv_aload_n hx hb dX11_lawLine_105 rfl (lv_at hl 3 rfl) ?_
                refine z_geti C0 hW fl_X11_25 rfl rfl dX11_lawLine_106 ?_
                refine lv_iconst (v := (-1 : Int32)) hx hb dX11_lawLine_109 (by decide) ?_
                refine lv_icmp_ne (tgt := 117) hx hb dX11_lawLine_110 (by decide) (fun hc => ?_) (fun hc => ?_)
                · replace h := z_f h hc
                  clear hc
                  cases h
                  exact z_vret C0 hr hlk hW hS dX11_lawLine_117
                · replace h := z_t h hc
                  clear hc
                  refine lv_iload_n hx hb dX11_lawLine_113 rfl (lv_at hl 0 rfl) ?_
                  refine lv_if_ne (tgt := 118) hx hb dX11_lawLine_114 (by decide) (fun hc => ?_) (fun hc => ?_)
                  · clear hc
                    refine lv_aload_n hx hb dX11_lawLine_118 rfl (lv_at hl 3 rfl) ?_
                    refine lv_dup hx hb dX11_lawLine_119 rfl ?_
                    refine z_geti C0 hW fl_X11_238 rfl rfl dX11_lawLine_120 ?_
                    refine lv_iload_n hx hb dX11_lawLine_123 rfl (lv_at hl 2 rfl) ?_
                    refine lv_if_ne (tgt := 131) hx hb dX11_lawLine_124 (by decide) (fun hc => ?_) (fun hc => ?_)
                    · clear hc
                      refine lv_iconst (v := (0 : Int32)) hx hb dX11_lawLine_131 (by decide) ?_
                      refine lv_iadd hx hb dX11_lawLine_132 ?_
                      refine z_puti C0 hW hS fl_X11_238 rfl rfl rfl rfl dX11_lawLine_133 (fun H locs u26 e1 hW hS => ?_)
                      replace h := z_ly h e1
                      clear e1
                      refine lv_aload_n hx hb dX11_lawLine_136 rfl (lv_at hl 3 rfl) ?_
                      refine lv_dup hx hb dX11_lawLine_137 rfl ?_
                      refine z_geti C0 hW fl_X11_241 rfl rfl dX11_lawLine_138 ?_
                      refine lv_iload_n hx hb dX11_lawLine_141 rfl (lv_at hl 2 rfl) ?_
                      refine lv_iconst (v := (1 : Int32)) hx hb dX11_lawLine_142 (by decide) ?_
                      refine lv_icmp_ne (tgt := 150) hx hb dX11_lawLine_143 (by decide) (fun hc => ?_) (fun hc => ?_)
                      · exact absurd hc (by decide)
                      · clear hc
                        refine lv_iload_n hx hb dX11_lawLine_146 rfl (lv_at hl 1 rfl) ?_
                        refine lv_goto (tgt := 161) hx hb dX11_lawLine_147 (by decide) ?_
                        refine lv_iadd hx hb dX11_lawLine_161 ?_
                        refine z_puti C0 hW hS fl_X11_241 rfl rfl rfl rfl dX11_lawLine_162 (fun H locs u27 e1 hW hS => ?_)
                        replace h := z_ly h e1
                        clear e1
                        cases h
                        exact z_vret C0 hr hlk hW hS dX11_lawLine_165
                    · exact absurd hc (by decide)
                  · exact absurd hc (by decide)
        · replace h := z_f h hc
          clear hc
          cases h
          exact z_vret C0 hr hlk hW hS dX11_lawLine_71
      · exact absurd hc (by decide)
  · replace h := z_t h hc
    clear hc
    refine lv_iconst (v := (0 : Int32)) hx hb dX11_lawLine_9 (by decide) ?_
    refine lv_goto (tgt := 40) hx hb dX11_lawLine_10 (by decide) ?_
    refine lv_istore_n (lv' := [(1, .int (0 : Int32)), (0, .ref (b + 0))]) hx hb dX11_lawLine_40 rfl hl (by decide) rfl (fun ls hl => ?_)
    refine lv_iload_n hx hb dX11_lawLine_41 rfl (lv_at hl 0 rfl) ?_
    refine lv_iconst (v := (-1 : Int32)) hx hb dX11_lawLine_42 (by decide) ?_
    refine lv_icmp_ne (tgt := 55) hx hb dX11_lawLine_43 (by decide) (fun hc => ?_) (fun hc => ?_)
    · clear hc
      refine lv_aload_n hx hb dX11_lawLine_55 rfl (lv_at hl 1 rfl) ?_
      refine lv_iconst (v := (0 : Int32)) hx hb dX11_lawLine_56 (by decide) ?_
      refine lv_bipush (v := (30 : Int32)) hx hb dX11_lawLine_57 (by decide) ?_
      replace h := z_bd2 h
      obtain ⟨r28, u29, hq, h⟩ := h
      refine z_cvi (As := [.int (0 : Int32), .int (30 : Int32)]) C0 hml hl.1 hW hS (c_X11_figures l D A b (0 : Int32) (30 : Int32) u2 hq) mv_X11_112 rfl ⟨Nat.le_of_ble_eq_true rfl, Nat.le_of_ble_eq_true rfl⟩ rfl rfl (Nat.le_of_ble_eq_true rfl) dX11_lawLine_59 (fun H locs hW hS => ?_)
      clear hq
      refine lv_istore_n (lv' := [(2, .int r28), (1, .int (0 : Int32)), (0, .ref (b + 0))]) hx hb dX11_lawLine_62 rfl hl (by decide) rfl (fun ls hl => ?_)
      refine lv_aload_n hx hb dX11_lawLine_63 rfl (lv_at hl 2 rfl) ?_
      refine z_geti C0 hW fl_X11_25 rfl rfl dX11_lawLine_64 ?_
      refine lv_iconst (v := (-1 : Int32)) hx hb dX11_lawLine_67 (by decide) ?_
      refine lv_icmp_eq (tgt := 72) hx hb dX11_lawLine_68 (by decide) (fun hc => ?_) (fun hc => ?_)
      · replace h := z_t h hc
        clear hc
        refine lv_iconst (v := (1 : Int32)) hx hb dX11_lawLine_72 (by decide) ?_
        refine lv_istore_n (lv' := [(3, .int (1 : Int32)), (2, .int r28), (1, .int (0 : Int32)), (0, .ref (b + 0))]) hx hb dX11_lawLine_73 rfl hl (by decide) rfl (fun ls hl => ?_)
        refine lv_aload_n hx hb dX11_lawLine_74 rfl (lv_at hl 3 rfl) ?_
        refine z_ldcS (k := 32) (tx := "if") C0 (List.mem_of_getElem? (i := 73) rfl) dX11_lawLine_75 ?_
        replace h := z_bd2 h
        obtain ⟨t30, u31, hq, h⟩ := h
        refine z_cvi (As := [.ref (sA D 32)]) C0 hml hl.1 hW hS (c_X11_has l D A b 32 (by decide) u29 hq) mv_X11_108 rfl ⟨Nat.le_of_ble_eq_true rfl, Nat.le_of_ble_eq_true rfl⟩ rfl rfl (Nat.le_of_ble_eq_true rfl) dX11_lawLine_77 (fun H locs hW hS => ?_)
        clear hq
        refine z_ifeqZ C0 (tgt := 105) dX11_lawLine_80 (by decide) (fun hc => ?_) (fun hc => ?_)
        · replace h := z_ff h hc
          clear hc
          refine lv_aload_n hx hb dX11_lawLine_105 rfl (lv_at hl 3 rfl) ?_
          refine z_geti C0 hW fl_X11_25 rfl rfl dX11_lawLine_106 ?_
          refine lv_iconst (v := (-1 : Int32)) hx hb dX11_lawLine_109 (by decide) ?_
          refine lv_icmp_ne (tgt := 117) hx hb dX11_lawLine_110 (by decide) (fun hc => ?_) (fun hc => ?_)
          · replace h := z_f h hc
            clear hc
            cases h
            exact z_vret C0 hr hlk hW hS dX11_lawLine_117
          · replace h := z_t h hc
            clear hc
            refine lv_iload_n hx hb dX11_lawLine_113 rfl (lv_at hl 0 rfl) ?_
            refine lv_if_ne (tgt := 118) hx hb dX11_lawLine_114 (by decide) (fun hc => ?_) (fun hc => ?_)
            · clear hc
              refine lv_aload_n hx hb dX11_lawLine_118 rfl (lv_at hl 3 rfl) ?_
              refine lv_dup hx hb dX11_lawLine_119 rfl ?_
              refine z_geti C0 hW fl_X11_238 rfl rfl dX11_lawLine_120 ?_
              refine lv_iload_n hx hb dX11_lawLine_123 rfl (lv_at hl 2 rfl) ?_
              refine lv_if_ne (tgt := 131) hx hb dX11_lawLine_124 (by decide) (fun hc => ?_) (fun hc => ?_)
              · exact absurd hc (by decide)
              · clear hc
                refine lv_iload_n hx hb dX11_lawLine_127 rfl (lv_at hl 1 rfl) ?_
                refine lv_goto (tgt := 132) hx hb dX11_lawLine_128 (by decide) ?_
                refine lv_iadd hx hb dX11_lawLine_132 ?_
                refine z_puti C0 hW hS fl_X11_238 rfl rfl rfl rfl dX11_lawLine_133 (fun H locs u32 e1 hW hS => ?_)
                replace h := z_ly h e1
                clear e1
                refine lv_aload_n hx hb dX11_lawLine_136 rfl (lv_at hl 3 rfl) ?_
                refine lv_dup hx hb dX11_lawLine_137 rfl ?_
                refine z_geti C0 hW fl_X11_241 rfl rfl dX11_lawLine_138 ?_
                refine lv_iload_n hx hb dX11_lawLine_141 rfl (lv_at hl 2 rfl) ?_
                refine lv_iconst (v := (1 : Int32)) hx hb dX11_lawLine_142 (by decide) ?_
                refine lv_icmp_ne (tgt := 150) hx hb dX11_lawLine_143 (by decide) (fun hc => ?_) (fun hc => ?_)
                · clear hc
                  refine lv_iload_n hx hb dX11_lawLine_150 rfl (lv_at hl 2 rfl) ?_
                  refine lv_iconst (v := (2 : Int32)) hx hb dX11_lawLine_151 (by decide) ?_
                  refine lv_icmp_ne (tgt := 160) hx hb dX11_lawLine_152 (by decide) (fun hc => ?_) (fun hc => ?_)
                  · clear hc
                    refine lv_iconst (v := (0 : Int32)) hx hb dX11_lawLine_160 (by decide) ?_
                    refine lv_iadd hx hb dX11_lawLine_161 ?_
                    refine z_puti C0 hW hS fl_X11_241 rfl rfl rfl rfl dX11_lawLine_162 (fun H locs u33 e1 hW hS => ?_)
                    replace h := z_ly h e1
                    clear e1
                    cases h
                    exact z_vret C0 hr hlk hW hS dX11_lawLine_165
                  · exact absurd hc (by decide)
                · exact absurd hc (by decide)
            · exact absurd hc (by decide)
        · replace h := z_t h hc
          clear hc
          refine lv_aload_n hx hb dX11_lawLine_83 rfl (lv_at hl 3 rfl) ?_
          replace h := z_bd2 h
          obtain ⟨t34, u35, hq, h⟩ := h
          refine z_cvi (As := []) C0 hml hl.1 hW hS (c_X11_some l D A b (fr := zFA 8) (lo := zLA 8) (by decide) (by decide) (fun q0 q1 q2 h => c_X11_atom l D A b 8 q0 q1 q2 h) u31 hq) mv_X11_217 rfl ⟨Nat.le_of_ble_eq_true rfl, Nat.le_of_ble_eq_true rfl⟩ rfl rfl (Nat.le_of_ble_eq_true rfl) dX11_lawLine_84 (fun H locs hW hS => ?_)
          clear hq
          refine lv_istore_n (lv' := [(3, .int (bI t34)), (2, .int r28), (1, .int (0 : Int32)), (0, .ref (b + 0))]) hx hb dX11_lawLine_87 rfl hl (by decide) rfl (fun ls hl => ?_)
          refine lv_iload_n hx hb dX11_lawLine_88 rfl (lv_at hl 0 rfl) ?_
          refine lv_if_eq (tgt := 103) hx hb dX11_lawLine_89 (by decide) (fun hc => ?_) (fun hc => ?_)
          · replace h := z_t h hc
            clear hc
            refine lv_iconst (v := (0 : Int32)) hx hb dX11_lawLine_103 (by decide) ?_
            refine lv_istore_n (lv' := [(3, .int (0 : Int32)), (2, .int r28), (1, .int (0 : Int32)), (0, .ref (b + 0))]) hx hb dX11_lawLine_104 rfl hl (by decide) rfl (fun ls hl => ?_)
            refine lv_aload_n hx hb dX11_lawLine_105 rfl (lv_at hl 3 rfl) ?_
            refine z_geti C0 hW fl_X11_25 rfl rfl dX11_lawLine_106 ?_
            refine lv_iconst (v := (-1 : Int32)) hx hb dX11_lawLine_109 (by decide) ?_
            refine lv_icmp_ne (tgt := 117) hx hb dX11_lawLine_110 (by decide) (fun hc => ?_) (fun hc => ?_)
            · replace h := z_f h hc
              clear hc
              cases h
              exact z_vret C0 hr hlk hW hS dX11_lawLine_117
            · replace h := z_t h hc
              clear hc
              refine lv_iload_n hx hb dX11_lawLine_113 rfl (lv_at hl 0 rfl) ?_
              refine lv_if_ne (tgt := 118) hx hb dX11_lawLine_114 (by decide) (fun hc => ?_) (fun hc => ?_)
              · exact absurd hc (by decide)
              · clear hc
                cases h
                exact z_vret C0 hr hlk hW hS dX11_lawLine_117
          · replace h := z_f h hc
            clear hc
            refine lv_aload_n hx hb dX11_lawLine_92 rfl (lv_at hl 3 rfl) ?_
            refine z_geti C0 hW fl_X11_235 rfl rfl dX11_lawLine_93 ?_
            refine lv_if_ne (tgt := 103) hx hb dX11_lawLine_96 (by decide) (fun hc => ?_) (fun hc => ?_)
            · replace h := z_f h hc
              clear hc
              refine lv_iconst (v := (0 : Int32)) hx hb dX11_lawLine_103 (by decide) ?_
              refine lv_istore_n (lv' := [(3, .int (0 : Int32)), (2, .int r28), (1, .int (0 : Int32)), (0, .ref (b + 0))]) hx hb dX11_lawLine_104 rfl hl (by decide) rfl (fun ls hl => ?_)
              refine lv_aload_n hx hb dX11_lawLine_105 rfl (lv_at hl 3 rfl) ?_
              refine z_geti C0 hW fl_X11_25 rfl rfl dX11_lawLine_106 ?_
              refine lv_iconst (v := (-1 : Int32)) hx hb dX11_lawLine_109 (by decide) ?_
              refine lv_icmp_ne (tgt := 117) hx hb dX11_lawLine_110 (by decide) (fun hc => ?_) (fun hc => ?_)
              · replace h := z_f h hc
                clear hc
                cases h
                exact z_vret C0 hr hlk hW hS dX11_lawLine_117
              · replace h := z_t h hc
                clear hc
                refine lv_iload_n hx hb dX11_lawLine_113 rfl (lv_at hl 0 rfl) ?_
                refine lv_if_ne (tgt := 118) hx hb dX11_lawLine_114 (by decide) (fun hc => ?_) (fun hc => ?_)
                · exact absurd hc (by decide)
                · clear hc
                  cases h
                  exact z_vret C0 hr hlk hW hS dX11_lawLine_117
            · replace h := z_t h hc
              clear hc
              refine lv_iconst (v := (1 : Int32)) hx hb dX11_lawLine_99 (by decide) ?_
              refine lv_goto (tgt := 104) hx hb dX11_lawLine_100 (by decide) ?_
              refine lv_istore_n (lv' := [(3, .int (1 : Int32)), (2, .int r28), (1, .int (0 : Int32)), (0, .ref (b + 0))]) hx hb dX11_lawLine_104 rfl hl (by decide) rfl (fun ls hl => ?_)
              refine lv_aload_n hx hb dX11_lawLine_105 rfl (lv_at hl 3 rfl) ?_
              refine z_geti C0 hW fl_X11_25 rfl rfl dX11_lawLine_106 ?_
              refine lv_iconst (v := (-1 : Int32)) hx hb dX11_lawLine_109 (by decide) ?_
              refine lv_icmp_ne (tgt := 117) hx hb dX11_lawLine_110 (by decide) (fun hc => ?_) (fun hc => ?_)
              · replace h := z_f h hc
                clear hc
                cases h
                exact z_vret C0 hr hlk hW hS dX11_lawLine_117
              · replace h := z_t h hc
                clear hc
                refine lv_iload_n hx hb dX11_lawLine_113 rfl (lv_at hl 0 rfl) ?_
                refine lv_if_ne (tgt := 118) hx hb dX11_lawLine_114 (by decide) (fun hc => ?_) (fun hc => ?_)
                · clear hc
                  refine lv_aload_n hx hb dX11_lawLine_118 rfl (lv_at hl 3 rfl) ?_
                  refine lv_dup hx hb dX11_lawLine_119 rfl ?_
                  refine z_geti C0 hW fl_X11_238 rfl rfl dX11_lawLine_120 ?_
                  refine lv_iload_n hx hb dX11_lawLine_123 rfl (lv_at hl 2 rfl) ?_
                  refine lv_if_ne (tgt := 131) hx hb dX11_lawLine_124 (by decide) (fun hc => ?_) (fun hc => ?_)
                  · exact absurd hc (by decide)
                  · clear hc
                    refine lv_iload_n hx hb dX11_lawLine_127 rfl (lv_at hl 1 rfl) ?_
                    refine lv_goto (tgt := 132) hx hb dX11_lawLine_128 (by decide) ?_
                    refine lv_iadd hx hb dX11_lawLine_132 ?_
                    refine z_puti C0 hW hS fl_X11_238 rfl rfl rfl rfl dX11_lawLine_133 (fun H locs u36 e1 hW hS => ?_)
                    replace h := z_ly h e1
                    clear e1
                    refine lv_aload_n hx hb dX11_lawLine_136 rfl (lv_at hl 3 rfl) ?_
                    refine lv_dup hx hb dX11_lawLine_137 rfl ?_
                    refine z_geti C0 hW fl_X11_241 rfl rfl dX11_lawLine_138 ?_
                    refine lv_iload_n hx hb dX11_lawLine_141 rfl (lv_at hl 2 rfl) ?_
                    refine lv_iconst (v := (1 : Int32)) hx hb dX11_lawLine_142 (by decide) ?_
                    refine lv_icmp_ne (tgt := 150) hx hb dX11_lawLine_143 (by decide) (fun hc => ?_) (fun hc => ?_)
                    · clear hc
                      refine lv_iload_n hx hb dX11_lawLine_150 rfl (lv_at hl 2 rfl) ?_
                      refine lv_iconst (v := (2 : Int32)) hx hb dX11_lawLine_151 (by decide) ?_
                      refine lv_icmp_ne (tgt := 160) hx hb dX11_lawLine_152 (by decide) (fun hc => ?_) (fun hc => ?_)
                      · clear hc
                        refine lv_iconst (v := (0 : Int32)) hx hb dX11_lawLine_160 (by decide) ?_
                        refine lv_iadd hx hb dX11_lawLine_161 ?_
                        refine z_puti C0 hW hS fl_X11_241 rfl rfl rfl rfl dX11_lawLine_162 (fun H locs u37 e1 hW hS => ?_)
                        replace h := z_ly h e1
                        clear e1
                        cases h
                        exact z_vret C0 hr hlk hW hS dX11_lawLine_165
                      · exact absurd hc (by decide)
                    · exact absurd hc (by decide)
                · exact absurd hc (by decide)
      · replace h := z_f h hc
        clear hc
        cases h
        exact z_vret C0 hr hlk hW hS dX11_lawLine_71
    · exact absurd hc (by decide)
def f_X11_read_23 : Nat → Bool → Int32 → Int32 → zU → Option (Int32 × zU)
  | 0, _, _, _, _ => none
  | n + 1, x1, x2, x3, u =>
    if x2 = 0 then (some (x3, u)) else (if (u 0 12) = (-1 : Int32) then ((f_X11_skip u).bind (fun u2 => if x1 = true then (if x3 = (12 : Int32) then (z_let (f_X11_wrong (u2 0 11) u2) (fun u33 => (f_X11_skip u33).bind (fun u34 => if (u34 0 12) = (-1 : Int32) then (if (u34 0 11) = (u34 0 10) then (f_X11_read_23 n x1 (0 : Int32) (x3 + (1 : Int32)) u34) else (z_b2 (f_X11_isSign (59 : Int32) u34) (fun t35 u36 => if t35 = true then (z_let (z_up u36 0 11 ((u36 0 11) + (1 : Int32))) (fun u38 => f_X11_read_23 n x1 x2 (x3 + (1 : Int32)) u38)) else (z_let (f_X11_wrong (u36 0 11) u36) (fun u37 => f_X11_read_23 n x1 x2 (x3 + (1 : Int32)) u37))))) else (f_X11_read_23 n x1 (0 : Int32) (x3 + (1 : Int32)) u34)))) else (if x1 = true then ((f_X11_lawLine u2).bind (fun u27 => (f_X11_skip u27).bind (fun u28 => if (u28 0 12) = (-1 : Int32) then (if (u28 0 11) = (u28 0 10) then (f_X11_read_23 n x1 (0 : Int32) (x3 + (1 : Int32)) u28) else (z_b2 (f_X11_isSign (59 : Int32) u28) (fun t29 u30 => if t29 = true then (z_let (z_up u30 0 11 ((u30 0 11) + (1 : Int32))) (fun u32 => f_X11_read_23 n x1 x2 (x3 + (1 : Int32)) u32)) else (z_let (f_X11_wrong (u30 0 11) u30) (fun u31 => f_X11_read_23 n x1 x2 (x3 + (1 : Int32)) u31))))) else (f_X11_read_23 n x1 (0 : Int32) (x3 + (1 : Int32)) u28)))) else ((f_X11_fairLine u2).bind (fun u21 => (f_X11_skip u21).bind (fun u22 => if (u22 0 12) = (-1 : Int32) then (if (u22 0 11) = (u22 0 10) then (f_X11_read_23 n x1 (0 : Int32) (x3 + (1 : Int32)) u22) else (z_b2 (f_X11_isSign (59 : Int32) u22) (fun t23 u24 => if t23 = true then (z_let (z_up u24 0 11 ((u24 0 11) + (1 : Int32))) (fun u26 => f_X11_read_23 n x1 x2 (x3 + (1 : Int32)) u26)) else (z_let (f_X11_wrong (u24 0 11) u24) (fun u25 => f_X11_read_23 n x1 x2 (x3 + (1 : Int32)) u25))))) else (f_X11_read_23 n x1 (0 : Int32) (x3 + (1 : Int32)) u22)))))) else (if x3 = (14 : Int32) then (z_let (f_X11_wrong (u2 0 11) u2) (fun u15 => (f_X11_skip u15).bind (fun u16 => if (u16 0 12) = (-1 : Int32) then (if (u16 0 11) = (u16 0 10) then (f_X11_read_23 n x1 (0 : Int32) (x3 + (1 : Int32)) u16) else (z_b2 (f_X11_isSign (59 : Int32) u16) (fun t17 u18 => if t17 = true then (z_let (z_up u18 0 11 ((u18 0 11) + (1 : Int32))) (fun u20 => f_X11_read_23 n x1 x2 (x3 + (1 : Int32)) u20)) else (z_let (f_X11_wrong (u18 0 11) u18) (fun u19 => f_X11_read_23 n x1 x2 (x3 + (1 : Int32)) u19))))) else (f_X11_read_23 n x1 (0 : Int32) (x3 + (1 : Int32)) u16)))) else (if x1 = true then ((f_X11_lawLine u2).bind (fun u9 => (f_X11_skip u9).bind (fun u10 => if (u10 0 12) = (-1 : Int32) then (if (u10 0 11) = (u10 0 10) then (f_X11_read_23 n x1 (0 : Int32) (x3 + (1 : Int32)) u10) else (z_b2 (f_X11_isSign (59 : Int32) u10) (fun t11 u12 => if t11 = true then (z_let (z_up u12 0 11 ((u12 0 11) + (1 : Int32))) (fun u14 => f_X11_read_23 n x1 x2 (x3 + (1 : Int32)) u14)) else (z_let (f_X11_wrong (u12 0 11) u12) (fun u13 => f_X11_read_23 n x1 x2 (x3 + (1 : Int32)) u13))))) else (f_X11_read_23 n x1 (0 : Int32) (x3 + (1 : Int32)) u10)))) else ((f_X11_fairLine u2).bind (fun u3 => (f_X11_skip u3).bind (fun u4 => if (u4 0 12) = (-1 : Int32) then (if (u4 0 11) = (u4 0 10) then (f_X11_read_23 n x1 (0 : Int32) (x3 + (1 : Int32)) u4) else (z_b2 (f_X11_isSign (59 : Int32) u4) (fun t5 u6 => if t5 = true then (z_let (z_up u6 0 11 ((u6 0 11) + (1 : Int32))) (fun u8 => f_X11_read_23 n x1 x2 (x3 + (1 : Int32)) u8)) else (z_let (f_X11_wrong (u6 0 11) u6) (fun u7 => f_X11_read_23 n x1 x2 (x3 + (1 : Int32)) u7))))) else (f_X11_read_23 n x1 (0 : Int32) (x3 + (1 : Int32)) u4)))))))) else (some (x3, u)))
theorem f_X11_read_23_s (n : Nat) (x1 : Bool) (x2 : Int32) (x3 : Int32) (u : zU) : f_X11_read_23 (n + 1) x1 x2 x3 u = if x2 = 0 then (some (x3, u)) else (if (u 0 12) = (-1 : Int32) then ((f_X11_skip u).bind (fun u2 => if x1 = true then (if x3 = (12 : Int32) then (z_let (f_X11_wrong (u2 0 11) u2) (fun u33 => (f_X11_skip u33).bind (fun u34 => if (u34 0 12) = (-1 : Int32) then (if (u34 0 11) = (u34 0 10) then (f_X11_read_23 n x1 (0 : Int32) (x3 + (1 : Int32)) u34) else (z_b2 (f_X11_isSign (59 : Int32) u34) (fun t35 u36 => if t35 = true then (z_let (z_up u36 0 11 ((u36 0 11) + (1 : Int32))) (fun u38 => f_X11_read_23 n x1 x2 (x3 + (1 : Int32)) u38)) else (z_let (f_X11_wrong (u36 0 11) u36) (fun u37 => f_X11_read_23 n x1 x2 (x3 + (1 : Int32)) u37))))) else (f_X11_read_23 n x1 (0 : Int32) (x3 + (1 : Int32)) u34)))) else (if x1 = true then ((f_X11_lawLine u2).bind (fun u27 => (f_X11_skip u27).bind (fun u28 => if (u28 0 12) = (-1 : Int32) then (if (u28 0 11) = (u28 0 10) then (f_X11_read_23 n x1 (0 : Int32) (x3 + (1 : Int32)) u28) else (z_b2 (f_X11_isSign (59 : Int32) u28) (fun t29 u30 => if t29 = true then (z_let (z_up u30 0 11 ((u30 0 11) + (1 : Int32))) (fun u32 => f_X11_read_23 n x1 x2 (x3 + (1 : Int32)) u32)) else (z_let (f_X11_wrong (u30 0 11) u30) (fun u31 => f_X11_read_23 n x1 x2 (x3 + (1 : Int32)) u31))))) else (f_X11_read_23 n x1 (0 : Int32) (x3 + (1 : Int32)) u28)))) else ((f_X11_fairLine u2).bind (fun u21 => (f_X11_skip u21).bind (fun u22 => if (u22 0 12) = (-1 : Int32) then (if (u22 0 11) = (u22 0 10) then (f_X11_read_23 n x1 (0 : Int32) (x3 + (1 : Int32)) u22) else (z_b2 (f_X11_isSign (59 : Int32) u22) (fun t23 u24 => if t23 = true then (z_let (z_up u24 0 11 ((u24 0 11) + (1 : Int32))) (fun u26 => f_X11_read_23 n x1 x2 (x3 + (1 : Int32)) u26)) else (z_let (f_X11_wrong (u24 0 11) u24) (fun u25 => f_X11_read_23 n x1 x2 (x3 + (1 : Int32)) u25))))) else (f_X11_read_23 n x1 (0 : Int32) (x3 + (1 : Int32)) u22)))))) else (if x3 = (14 : Int32) then (z_let (f_X11_wrong (u2 0 11) u2) (fun u15 => (f_X11_skip u15).bind (fun u16 => if (u16 0 12) = (-1 : Int32) then (if (u16 0 11) = (u16 0 10) then (f_X11_read_23 n x1 (0 : Int32) (x3 + (1 : Int32)) u16) else (z_b2 (f_X11_isSign (59 : Int32) u16) (fun t17 u18 => if t17 = true then (z_let (z_up u18 0 11 ((u18 0 11) + (1 : Int32))) (fun u20 => f_X11_read_23 n x1 x2 (x3 + (1 : Int32)) u20)) else (z_let (f_X11_wrong (u18 0 11) u18) (fun u19 => f_X11_read_23 n x1 x2 (x3 + (1 : Int32)) u19))))) else (f_X11_read_23 n x1 (0 : Int32) (x3 + (1 : Int32)) u16)))) else (if x1 = true then ((f_X11_lawLine u2).bind (fun u9 => (f_X11_skip u9).bind (fun u10 => if (u10 0 12) = (-1 : Int32) then (if (u10 0 11) = (u10 0 10) then (f_X11_read_23 n x1 (0 : Int32) (x3 + (1 : Int32)) u10) else (z_b2 (f_X11_isSign (59 : Int32) u10) (fun t11 u12 => if t11 = true then (z_let (z_up u12 0 11 ((u12 0 11) + (1 : Int32))) (fun u14 => f_X11_read_23 n x1 x2 (x3 + (1 : Int32)) u14)) else (z_let (f_X11_wrong (u12 0 11) u12) (fun u13 => f_X11_read_23 n x1 x2 (x3 + (1 : Int32)) u13))))) else (f_X11_read_23 n x1 (0 : Int32) (x3 + (1 : Int32)) u10)))) else ((f_X11_fairLine u2).bind (fun u3 => (f_X11_skip u3).bind (fun u4 => if (u4 0 12) = (-1 : Int32) then (if (u4 0 11) = (u4 0 10) then (f_X11_read_23 n x1 (0 : Int32) (x3 + (1 : Int32)) u4) else (z_b2 (f_X11_isSign (59 : Int32) u4) (fun t5 u6 => if t5 = true then (z_let (z_up u6 0 11 ((u6 0 11) + (1 : Int32))) (fun u8 => f_X11_read_23 n x1 x2 (x3 + (1 : Int32)) u8)) else (z_let (f_X11_wrong (u6 0 11) u6) (fun u7 => f_X11_read_23 n x1 x2 (x3 + (1 : Int32)) u7))))) else (f_X11_read_23 n x1 (0 : Int32) (x3 + (1 : Int32)) u4)))))))) else (some (x3, u))) := rfl
def f_X11_read (a1 : Bool) (u : zU) : Option (Int32 × zU) :=
  (f_X11_skip u).bind (fun u1 => if (u1 0 10) ≤ (u1 0 11) then (f_X11_read_23 5000 a1 (0 : Int32) (0 : Int32) u1) else (f_X11_read_23 5000 a1 (1 : Int32) (0 : Int32) u1))
set_option maxRecDepth 100000 in
set_option maxHeartbeats 4000000 in
theorem l_X11_read_23 {l : Launch} {D : zD} {A : Nat → Prop} {b : Nat} {p : Program} {e : Env} {s : State} {m : MethodId} {args : Array Value} {below : List Frame} {meth : Method} {c : Code} {v : Int32} {u' : zU} (C0 : z_C p c cX11_read s m args yX11_read.cls D A) (hr : meth.sig.returnType = (some .int)) (hml : c.maxLocals = 4) (hlk : meth.locks = false) : ∀ (n : Nat) (x1 : Bool) (x2 : Int32) (x3 : Int32) (u : zU) (H : Heap) (locs : List Loc) (ls : Array Slot), f_X11_read_23 n x1 x2 x3 u = some (v, u') → z_W D A b gM u H → va_S A s.heap H locs → lv_has ls 4 [(0, .ref (b + 0)), (1, .int (bI x1)), (2, .int x2), (3, .int x3)] → W p l e { frames := 40, cells := 0, slots := 0, locals := 1305 } s m args below meth c H locs 0 0 (z_End D A b gM below args s (some (.int v)) u') (F0 m 23 ls []) := by
  have hx := C0.1
  have hb := C0.2.1
  intro n
  induction n with
  | zero => intro x1 x2 x3 u H locs ls h hW hS hl; cases h
  | succ n ih =>
    intro x1 x2 x3 u H locs ls h hW hS hl
    rw [f_X11_read_23_s] at h
    refine lv_iload_n hx hb dX11_read_23 rfl (lv_at hl 2 rfl) ?_
    refine lv_if_eq (tgt := 144) hx hb dX11_read_24 (by decide) (fun hc => ?_) (fun hc => ?_)
    · replace h := z_t h hc
      clear hc
      refine lv_iload_n hx hb dX11_read_144 rfl (lv_at hl 3 rfl) ?_
      cases h
      exact z_iret C0 hr hlk hW hS dX11_read_145
    · replace h := z_f h hc
      clear hc
      refine lv_aload_n hx hb dX11_read_27 rfl (lv_at hl 0 rfl) ?_
      refine z_geti C0 hW fl_X11_25 rfl rfl dX11_read_28 ?_
      refine lv_iconst (v := (-1 : Int32)) hx hb dX11_read_31 (by decide) ?_
      refine lv_icmp_ne (tgt := 144) hx hb dX11_read_32 (by decide) (fun hc => ?_) (fun hc => ?_)
      · replace h := z_f h hc
        clear hc
        refine lv_iload_n hx hb dX11_read_144 rfl (lv_at hl 3 rfl) ?_
        cases h
        exact z_iret C0 hr hlk hW hS dX11_read_145
      · replace h := z_t h hc
        clear hc
        refine lv_aload_n hx hb dX11_read_35 rfl (lv_at hl 0 rfl) ?_
        replace h := z_bd h
        obtain ⟨u2, hq, h⟩ := h
        refine z_cvv (As := []) C0 hml hl.1 hW hS (c_X11_skip l D A b u hq) mv_X11_88 rfl ⟨Nat.le_of_ble_eq_true rfl, Nat.le_of_ble_eq_true rfl⟩ rfl rfl (Nat.le_of_ble_eq_true rfl) dX11_read_36 (fun H locs hW hS => ?_)
        clear hq
        refine lv_iload_n hx hb dX11_read_39 rfl (lv_at hl 3 rfl) ?_
        refine lv_iload_n hx hb dX11_read_40 rfl (lv_at hl 1 rfl) ?_
        refine z_ifeqZ C0 (tgt := 49) dX11_read_41 (by decide) (fun hc => ?_) (fun hc => ?_)
        · replace h := z_ff h hc
          clear hc
          refine lv_bipush (v := (14 : Int32)) hx hb dX11_read_49 (by decide) ?_
          refine lv_icmp_ne (tgt := 65) hx hb dX11_read_51 (by decide) (fun hc => ?_) (fun hc => ?_)
          · replace h := z_f h hc
            clear hc
            refine lv_iload_n hx hb dX11_read_65 rfl (lv_at hl 1 rfl) ?_
            refine z_ifeqZ C0 (tgt := 76) dX11_read_66 (by decide) (fun hc => ?_) (fun hc => ?_)
            · replace h := z_ff h hc
              clear hc
              refine lv_aload_n hx hb dX11_read_76 rfl (lv_at hl 0 rfl) ?_
              replace h := z_bd h
              obtain ⟨u3, hq, h⟩ := h
              refine z_cvv (As := []) C0 hml hl.1 hW hS (c_X11_fairLine l D A b u2 hq) mv_X11_163 rfl ⟨Nat.le_of_ble_eq_true rfl, Nat.le_of_ble_eq_true rfl⟩ rfl rfl (Nat.le_of_ble_eq_true rfl) dX11_read_77 (fun H locs hW hS => ?_)
              clear hq
              refine lv_iinc (v := x3 + (1 : Int32)) (lv' := [(3, .int (x3 + (1 : Int32))), (0, .ref (b + 0)), (1, .int (bI x1)), (2, .int x2)]) hx hb dX11_read_80 hl (k := 3) rfl rfl (by decide) rfl (fun ls hl => ?_)
              refine lv_aload_n hx hb dX11_read_83 rfl (lv_at hl 1 rfl) ?_
              replace h := z_bd h
              obtain ⟨u4, hq, h⟩ := h
              refine z_cvv (As := []) C0 hml hl.1 hW hS (c_X11_skip l D A b u3 hq) mv_X11_88 rfl ⟨Nat.le_of_ble_eq_true rfl, Nat.le_of_ble_eq_true rfl⟩ rfl rfl (Nat.le_of_ble_eq_true rfl) dX11_read_84 (fun H locs hW hS => ?_)
              clear hq
              refine lv_aload_n hx hb dX11_read_87 rfl (lv_at hl 1 rfl) ?_
              refine z_geti C0 hW fl_X11_25 rfl rfl dX11_read_88 ?_
              refine lv_iconst (v := (-1 : Int32)) hx hb dX11_read_91 (by decide) ?_
              refine lv_icmp_ne (tgt := 106) hx hb dX11_read_92 (by decide) (fun hc => ?_) (fun hc => ?_)
              · replace h := z_f h hc
                clear hc
                refine lv_iconst (v := (0 : Int32)) hx hb dX11_read_106 (by decide) ?_
                refine lv_istore_n (lv' := [(2, .int (0 : Int32)), (3, .int (x3 + (1 : Int32))), (0, .ref (b + 0)), (1, .int (bI x1))]) hx hb dX11_read_107 rfl hl (by decide) rfl (fun ls hl => ?_)
                refine lv_goto (tgt := 23) hx hb dX11_read_108 (by decide) ?_
                exact ih _ _ _ _ _ _ _ h hW hS (lv_sub hl [2, 3, 0, 1] rfl)
              · replace h := z_t h hc
                clear hc
                refine lv_aload_n hx hb dX11_read_95 rfl (lv_at hl 1 rfl) ?_
                refine z_geti C0 hW fl_X11_79 rfl rfl dX11_read_96 ?_
                refine lv_aload_n hx hb dX11_read_99 rfl (lv_at hl 1 rfl) ?_
                refine z_geti C0 hW fl_X11_82 rfl rfl dX11_read_100 ?_
                refine lv_icmp_ne (tgt := 111) hx hb dX11_read_103 (by decide) (fun hc => ?_) (fun hc => ?_)
                · replace h := z_f h hc
                  clear hc
                  refine lv_aload_n hx hb dX11_read_111 rfl (lv_at hl 1 rfl) ?_
                  refine lv_bipush (v := (59 : Int32)) hx hb dX11_read_112 (by decide) ?_
                  replace h := z_bd2 h
                  obtain ⟨t5, u6, hq, h⟩ := h
                  refine z_cvi (As := [.int (59 : Int32)]) C0 hml hl.1 hW hS (c_X11_isSign l D A b (59 : Int32) u4 hq) mv_X11_166 rfl ⟨Nat.le_of_ble_eq_true rfl, Nat.le_of_ble_eq_true rfl⟩ rfl rfl (Nat.le_of_ble_eq_true rfl) dX11_read_114 (fun H locs hW hS => ?_)
                  clear hq
                  refine z_ifeqZ C0 (tgt := 133) dX11_read_117 (by decide) (fun hc => ?_) (fun hc => ?_)
                  · replace h := z_ff h hc
                    clear hc
                    refine lv_aload_n hx hb dX11_read_133 rfl (lv_at hl 1 rfl) ?_
                    refine lv_aload_n hx hb dX11_read_134 rfl (lv_at hl 1 rfl) ?_
                    refine z_geti C0 hW fl_X11_79 rfl rfl dX11_read_135 ?_
                    obtain ⟨u7, hq⟩ : ∃ y, f_X11_wrong (u6 0 11) u6 = y := ⟨_, rfl⟩
                    replace h := z_lz h hq
                    refine z_cvv (As := [.int (u6 0 11)]) C0 hml hl.1 hW hS (c_X11_wrong l D A b (u6 0 11) u6 hq) mv_X11_104 rfl ⟨Nat.le_of_ble_eq_true rfl, Nat.le_of_ble_eq_true rfl⟩ rfl rfl (Nat.le_of_ble_eq_true rfl) dX11_read_138 (fun H locs hW hS => ?_)
                    clear hq
                    refine lv_goto (tgt := 23) hx hb dX11_read_141 (by decide) ?_
                    exact ih _ _ _ _ _ _ _ h hW hS (lv_sub hl [1, 2, 3, 0] rfl)
                  · replace h := z_t h hc
                    clear hc
                    refine lv_aload_n hx hb dX11_read_120 rfl (lv_at hl 1 rfl) ?_
                    refine lv_dup hx hb dX11_read_121 rfl ?_
                    refine z_geti C0 hW fl_X11_79 rfl rfl dX11_read_122 ?_
                    refine lv_iconst (v := (1 : Int32)) hx hb dX11_read_125 (by decide) ?_
                    refine lv_iadd hx hb dX11_read_126 ?_
                    refine z_puti C0 hW hS fl_X11_79 rfl rfl rfl rfl dX11_read_127 (fun H locs u8 e1 hW hS => ?_)
                    replace h := z_ly h e1
                    clear e1
                    refine lv_goto (tgt := 23) hx hb dX11_read_130 (by decide) ?_
                    exact ih _ _ _ _ _ _ _ h hW hS (lv_sub hl [1, 2, 3, 0] rfl)
                · replace h := z_t h hc
                  clear hc
                  refine lv_iconst (v := (0 : Int32)) hx hb dX11_read_106 (by decide) ?_
                  refine lv_istore_n (lv' := [(2, .int (0 : Int32)), (3, .int (x3 + (1 : Int32))), (0, .ref (b + 0)), (1, .int (bI x1))]) hx hb dX11_read_107 rfl hl (by decide) rfl (fun ls hl => ?_)
                  refine lv_goto (tgt := 23) hx hb dX11_read_108 (by decide) ?_
                  exact ih _ _ _ _ _ _ _ h hW hS (lv_sub hl [2, 3, 0, 1] rfl)
            · replace h := z_t h hc
              clear hc
              refine lv_aload_n hx hb dX11_read_69 rfl (lv_at hl 0 rfl) ?_
              replace h := z_bd h
              obtain ⟨u9, hq, h⟩ := h
              refine z_cvv (As := []) C0 hml hl.1 hW hS (c_X11_lawLine l D A b u2 hq) mv_X11_160 rfl ⟨Nat.le_of_ble_eq_true rfl, Nat.le_of_ble_eq_true rfl⟩ rfl rfl (Nat.le_of_ble_eq_true rfl) dX11_read_70 (fun H locs hW hS => ?_)
              clear hq
              refine lv_goto (tgt := 80) hx hb dX11_read_73 (by decide) ?_
              refine lv_iinc (v := x3 + (1 : Int32)) (lv' := [(3, .int (x3 + (1 : Int32))), (0, .ref (b + 0)), (1, .int (bI x1)), (2, .int x2)]) hx hb dX11_read_80 hl (k := 3) rfl rfl (by decide) rfl (fun ls hl => ?_)
              refine lv_aload_n hx hb dX11_read_83 rfl (lv_at hl 1 rfl) ?_
              replace h := z_bd h
              obtain ⟨u10, hq, h⟩ := h
              refine z_cvv (As := []) C0 hml hl.1 hW hS (c_X11_skip l D A b u9 hq) mv_X11_88 rfl ⟨Nat.le_of_ble_eq_true rfl, Nat.le_of_ble_eq_true rfl⟩ rfl rfl (Nat.le_of_ble_eq_true rfl) dX11_read_84 (fun H locs hW hS => ?_)
              clear hq
              refine lv_aload_n hx hb dX11_read_87 rfl (lv_at hl 1 rfl) ?_
              refine z_geti C0 hW fl_X11_25 rfl rfl dX11_read_88 ?_
              refine lv_iconst (v := (-1 : Int32)) hx hb dX11_read_91 (by decide) ?_
              refine lv_icmp_ne (tgt := 106) hx hb dX11_read_92 (by decide) (fun hc => ?_) (fun hc => ?_)
              · replace h := z_f h hc
                clear hc
                refine lv_iconst (v := (0 : Int32)) hx hb dX11_read_106 (by decide) ?_
                refine lv_istore_n (lv' := [(2, .int (0 : Int32)), (3, .int (x3 + (1 : Int32))), (0, .ref (b + 0)), (1, .int (bI x1))]) hx hb dX11_read_107 rfl hl (by decide) rfl (fun ls hl => ?_)
                refine lv_goto (tgt := 23) hx hb dX11_read_108 (by decide) ?_
                exact ih _ _ _ _ _ _ _ h hW hS (lv_sub hl [2, 3, 0, 1] rfl)
              · replace h := z_t h hc
                clear hc
                refine lv_aload_n hx hb dX11_read_95 rfl (lv_at hl 1 rfl) ?_
                refine z_geti C0 hW fl_X11_79 rfl rfl dX11_read_96 ?_
                refine lv_aload_n hx hb dX11_read_99 rfl (lv_at hl 1 rfl) ?_
                refine z_geti C0 hW fl_X11_82 rfl rfl dX11_read_100 ?_
                refine lv_icmp_ne (tgt := 111) hx hb dX11_read_103 (by decide) (fun hc => ?_) (fun hc => ?_)
                · replace h := z_f h hc
                  clear hc
                  refine lv_aload_n hx hb dX11_read_111 rfl (lv_at hl 1 rfl) ?_
                  refine lv_bipush (v := (59 : Int32)) hx hb dX11_read_112 (by decide) ?_
                  replace h := z_bd2 h
                  obtain ⟨t11, u12, hq, h⟩ := h
                  refine z_cvi (As := [.int (59 : Int32)]) C0 hml hl.1 hW hS (c_X11_isSign l D A b (59 : Int32) u10 hq) mv_X11_166 rfl ⟨Nat.le_of_ble_eq_true rfl, Nat.le_of_ble_eq_true rfl⟩ rfl rfl (Nat.le_of_ble_eq_true rfl) dX11_read_114 (fun H locs hW hS => ?_)
                  clear hq
                  refine z_ifeqZ C0 (tgt := 133) dX11_read_117 (by decide) (fun hc => ?_) (fun hc => ?_)
                  · replace h := z_ff h hc
                    clear hc
                    refine lv_aload_n hx hb dX11_read_133 rfl (lv_at hl 1 rfl) ?_
                    refine lv_aload_n hx hb dX11_read_134 rfl (lv_at hl 1 rfl) ?_
                    refine z_geti C0 hW fl_X11_79 rfl rfl dX11_read_135 ?_
                    obtain ⟨u13, hq⟩ : ∃ y, f_X11_wrong (u12 0 11) u12 = y := ⟨_, rfl⟩
                    replace h := z_lz h hq
                    refine z_cvv (As := [.int (u12 0 11)]) C0 hml hl.1 hW hS (c_X11_wrong l D A b (u12 0 11) u12 hq) mv_X11_104 rfl ⟨Nat.le_of_ble_eq_true rfl, Nat.le_of_ble_eq_true rfl⟩ rfl rfl (Nat.le_of_ble_eq_true rfl) dX11_read_138 (fun H locs hW hS => ?_)
                    clear hq
                    refine lv_goto (tgt := 23) hx hb dX11_read_141 (by decide) ?_
                    exact ih _ _ _ _ _ _ _ h hW hS (lv_sub hl [1, 2, 3, 0] rfl)
                  · replace h := z_t h hc
                    clear hc
                    refine lv_aload_n hx hb dX11_read_120 rfl (lv_at hl 1 rfl) ?_
                    refine lv_dup hx hb dX11_read_121 rfl ?_
                    refine z_geti C0 hW fl_X11_79 rfl rfl dX11_read_122 ?_
                    refine lv_iconst (v := (1 : Int32)) hx hb dX11_read_125 (by decide) ?_
                    refine lv_iadd hx hb dX11_read_126 ?_
                    refine z_puti C0 hW hS fl_X11_79 rfl rfl rfl rfl dX11_read_127 (fun H locs u14 e1 hW hS => ?_)
                    replace h := z_ly h e1
                    clear e1
                    refine lv_goto (tgt := 23) hx hb dX11_read_130 (by decide) ?_
                    exact ih _ _ _ _ _ _ _ h hW hS (lv_sub hl [1, 2, 3, 0] rfl)
                · replace h := z_t h hc
                  clear hc
                  refine lv_iconst (v := (0 : Int32)) hx hb dX11_read_106 (by decide) ?_
                  refine lv_istore_n (lv' := [(2, .int (0 : Int32)), (3, .int (x3 + (1 : Int32))), (0, .ref (b + 0)), (1, .int (bI x1))]) hx hb dX11_read_107 rfl hl (by decide) rfl (fun ls hl => ?_)
                  refine lv_goto (tgt := 23) hx hb dX11_read_108 (by decide) ?_
                  exact ih _ _ _ _ _ _ _ h hW hS (lv_sub hl [2, 3, 0, 1] rfl)
          · replace h := z_t h hc
            clear hc
            refine lv_aload_n hx hb dX11_read_54 rfl (lv_at hl 0 rfl) ?_
            refine lv_aload_n hx hb dX11_read_55 rfl (lv_at hl 0 rfl) ?_
            refine z_geti C0 hW fl_X11_79 rfl rfl dX11_read_56 ?_
            obtain ⟨u15, hq⟩ : ∃ y, f_X11_wrong (u2 0 11) u2 = y := ⟨_, rfl⟩
            replace h := z_lz h hq
            refine z_cvv (As := [.int (u2 0 11)]) C0 hml hl.1 hW hS (c_X11_wrong l D A b (u2 0 11) u2 hq) mv_X11_104 rfl ⟨Nat.le_of_ble_eq_true rfl, Nat.le_of_ble_eq_true rfl⟩ rfl rfl (Nat.le_of_ble_eq_true rfl) dX11_read_59 (fun H locs hW hS => ?_)
            clear hq
            refine lv_goto (tgt := 80) hx hb dX11_read_62 (by decide) ?_
            refine lv_iinc (v := x3 + (1 : Int32)) (lv' := [(3, .int (x3 + (1 : Int32))), (0, .ref (b + 0)), (1, .int (bI x1)), (2, .int x2)]) hx hb dX11_read_80 hl (k := 3) rfl rfl (by decide) rfl (fun ls hl => ?_)
            refine lv_aload_n hx hb dX11_read_83 rfl (lv_at hl 1 rfl) ?_
            replace h := z_bd h
            obtain ⟨u16, hq, h⟩ := h
            refine z_cvv (As := []) C0 hml hl.1 hW hS (c_X11_skip l D A b u15 hq) mv_X11_88 rfl ⟨Nat.le_of_ble_eq_true rfl, Nat.le_of_ble_eq_true rfl⟩ rfl rfl (Nat.le_of_ble_eq_true rfl) dX11_read_84 (fun H locs hW hS => ?_)
            clear hq
            refine lv_aload_n hx hb dX11_read_87 rfl (lv_at hl 1 rfl) ?_
            refine z_geti C0 hW fl_X11_25 rfl rfl dX11_read_88 ?_
            refine lv_iconst (v := (-1 : Int32)) hx hb dX11_read_91 (by decide) ?_
            refine lv_icmp_ne (tgt := 106) hx hb dX11_read_92 (by decide) (fun hc => ?_) (fun hc => ?_)
            · replace h := z_f h hc
              clear hc
              refine lv_iconst (v := (0 : Int32)) hx hb dX11_read_106 (by decide) ?_
              refine lv_istore_n (lv' := [(2, .int (0 : Int32)), (3, .int (x3 + (1 : Int32))), (0, .ref (b + 0)), (1, .int (bI x1))]) hx hb dX11_read_107 rfl hl (by decide) rfl (fun ls hl => ?_)
              refine lv_goto (tgt := 23) hx hb dX11_read_108 (by decide) ?_
              exact ih _ _ _ _ _ _ _ h hW hS (lv_sub hl [2, 3, 0, 1] rfl)
            · replace h := z_t h hc
              clear hc
              refine lv_aload_n hx hb dX11_read_95 rfl (lv_at hl 1 rfl) ?_
              refine z_geti C0 hW fl_X11_79 rfl rfl dX11_read_96 ?_
              refine lv_aload_n hx hb dX11_read_99 rfl (lv_at hl 1 rfl) ?_
              refine z_geti C0 hW fl_X11_82 rfl rfl dX11_read_100 ?_
              refine lv_icmp_ne (tgt := 111) hx hb dX11_read_103 (by decide) (fun hc => ?_) (fun hc => ?_)
              · replace h := z_f h hc
                clear hc
                refine lv_aload_n hx hb dX11_read_111 rfl (lv_at hl 1 rfl) ?_
                refine lv_bipush (v := (59 : Int32)) hx hb dX11_read_112 (by decide) ?_
                replace h := z_bd2 h
                obtain ⟨t17, u18, hq, h⟩ := h
                refine z_cvi (As := [.int (59 : Int32)]) C0 hml hl.1 hW hS (c_X11_isSign l D A b (59 : Int32) u16 hq) mv_X11_166 rfl ⟨Nat.le_of_ble_eq_true rfl, Nat.le_of_ble_eq_true rfl⟩ rfl rfl (Nat.le_of_ble_eq_true rfl) dX11_read_114 (fun H locs hW hS => ?_)
                clear hq
                refine z_ifeqZ C0 (tgt := 133) dX11_read_117 (by decide) (fun hc => ?_) (fun hc => ?_)
                · replace h := z_ff h hc
                  clear hc
                  refine lv_aload_n hx hb dX11_read_133 rfl (lv_at hl 1 rfl) ?_
                  refine lv_aload_n hx hb dX11_read_134 rfl (lv_at hl 1 rfl) ?_
                  refine z_geti C0 hW fl_X11_79 rfl rfl dX11_read_135 ?_
                  obtain ⟨u19, hq⟩ : ∃ y, f_X11_wrong (u18 0 11) u18 = y := ⟨_, rfl⟩
                  replace h := z_lz h hq
                  refine z_cvv (As := [.int (u18 0 11)]) C0 hml hl.1 hW hS (c_X11_wrong l D A b (u18 0 11) u18 hq) mv_X11_104 rfl ⟨Nat.le_of_ble_eq_true rfl, Nat.le_of_ble_eq_true rfl⟩ rfl rfl (Nat.le_of_ble_eq_true rfl) dX11_read_138 (fun H locs hW hS => ?_)
                  clear hq
                  refine lv_goto (tgt := 23) hx hb dX11_read_141 (by decide) ?_
                  exact ih _ _ _ _ _ _ _ h hW hS (lv_sub hl [1, 2, 3, 0] rfl)
                · replace h := z_t h hc
                  clear hc
                  refine lv_aload_n hx hb dX11_read_120 rfl (lv_at hl 1 rfl) ?_
                  refine lv_dup hx hb dX11_read_121 rfl ?_
                  refine z_geti C0 hW fl_X11_79 rfl rfl dX11_read_122 ?_
                  refine lv_iconst (v := (1 : Int32)) hx hb dX11_read_125 (by decide) ?_
                  refine lv_iadd hx hb dX11_read_126 ?_
                  refine z_puti C0 hW hS fl_X11_79 rfl rfl rfl rfl dX11_read_127 (fun H locs u20 e1 hW hS => ?_)
                  replace h := z_ly h e1
                  clear e1
                  refine lv_goto (tgt := 23) hx hb dX11_read_130 (by decide) ?_
                  exact ih _ _ _ _ _ _ _ h hW hS (lv_sub hl [1, 2, 3, 0] rfl)
              · replace h := z_t h hc
                clear hc
                refine lv_iconst (v := (0 : Int32)) hx hb dX11_read_106 (by decide) ?_
                refine lv_istore_n (lv' := [(2, .int (0 : Int32)), (3, .int (x3 + (1 : Int32))), (0, .ref (b + 0)), (1, .int (bI x1))]) hx hb dX11_read_107 rfl hl (by decide) rfl (fun ls hl => ?_)
                refine lv_goto (tgt := 23) hx hb dX11_read_108 (by decide) ?_
                exact ih _ _ _ _ _ _ _ h hW hS (lv_sub hl [2, 3, 0, 1] rfl)
        · replace h := z_t h hc
          clear hc
          refine lv_bipush (v := (12 : Int32)) hx hb dX11_read_44 (by decide) ?_
          refine lv_goto (tgt := 51) hx hb dX11_read_46 (by decide) ?_
          refine lv_icmp_ne (tgt := 65) hx hb dX11_read_51 (by decide) (fun hc => ?_) (fun hc => ?_)
          · replace h := z_f h hc
            clear hc
            refine lv_iload_n hx hb dX11_read_65 rfl (lv_at hl 1 rfl) ?_
            refine z_ifeqZ C0 (tgt := 76) dX11_read_66 (by decide) (fun hc => ?_) (fun hc => ?_)
            · replace h := z_ff h hc
              clear hc
              refine lv_aload_n hx hb dX11_read_76 rfl (lv_at hl 0 rfl) ?_
              replace h := z_bd h
              obtain ⟨u21, hq, h⟩ := h
              refine z_cvv (As := []) C0 hml hl.1 hW hS (c_X11_fairLine l D A b u2 hq) mv_X11_163 rfl ⟨Nat.le_of_ble_eq_true rfl, Nat.le_of_ble_eq_true rfl⟩ rfl rfl (Nat.le_of_ble_eq_true rfl) dX11_read_77 (fun H locs hW hS => ?_)
              clear hq
              refine lv_iinc (v := x3 + (1 : Int32)) (lv' := [(3, .int (x3 + (1 : Int32))), (0, .ref (b + 0)), (1, .int (bI x1)), (2, .int x2)]) hx hb dX11_read_80 hl (k := 3) rfl rfl (by decide) rfl (fun ls hl => ?_)
              refine lv_aload_n hx hb dX11_read_83 rfl (lv_at hl 1 rfl) ?_
              replace h := z_bd h
              obtain ⟨u22, hq, h⟩ := h
              refine z_cvv (As := []) C0 hml hl.1 hW hS (c_X11_skip l D A b u21 hq) mv_X11_88 rfl ⟨Nat.le_of_ble_eq_true rfl, Nat.le_of_ble_eq_true rfl⟩ rfl rfl (Nat.le_of_ble_eq_true rfl) dX11_read_84 (fun H locs hW hS => ?_)
              clear hq
              refine lv_aload_n hx hb dX11_read_87 rfl (lv_at hl 1 rfl) ?_
              refine z_geti C0 hW fl_X11_25 rfl rfl dX11_read_88 ?_
              refine lv_iconst (v := (-1 : Int32)) hx hb dX11_read_91 (by decide) ?_
              refine lv_icmp_ne (tgt := 106) hx hb dX11_read_92 (by decide) (fun hc => ?_) (fun hc => ?_)
              · replace h := z_f h hc
                clear hc
                refine lv_iconst (v := (0 : Int32)) hx hb dX11_read_106 (by decide) ?_
                refine lv_istore_n (lv' := [(2, .int (0 : Int32)), (3, .int (x3 + (1 : Int32))), (0, .ref (b + 0)), (1, .int (bI x1))]) hx hb dX11_read_107 rfl hl (by decide) rfl (fun ls hl => ?_)
                refine lv_goto (tgt := 23) hx hb dX11_read_108 (by decide) ?_
                exact ih _ _ _ _ _ _ _ h hW hS (lv_sub hl [2, 3, 0, 1] rfl)
              · replace h := z_t h hc
                clear hc
                refine lv_aload_n hx hb dX11_read_95 rfl (lv_at hl 1 rfl) ?_
                refine z_geti C0 hW fl_X11_79 rfl rfl dX11_read_96 ?_
                refine lv_aload_n hx hb dX11_read_99 rfl (lv_at hl 1 rfl) ?_
                refine z_geti C0 hW fl_X11_82 rfl rfl dX11_read_100 ?_
                refine lv_icmp_ne (tgt := 111) hx hb dX11_read_103 (by decide) (fun hc => ?_) (fun hc => ?_)
                · replace h := z_f h hc
                  clear hc
                  refine lv_aload_n hx hb dX11_read_111 rfl (lv_at hl 1 rfl) ?_
                  refine lv_bipush (v := (59 : Int32)) hx hb dX11_read_112 (by decide) ?_
                  replace h := z_bd2 h
                  obtain ⟨t23, u24, hq, h⟩ := h
                  refine z_cvi (As := [.int (59 : Int32)]) C0 hml hl.1 hW hS (c_X11_isSign l D A b (59 : Int32) u22 hq) mv_X11_166 rfl ⟨Nat.le_of_ble_eq_true rfl, Nat.le_of_ble_eq_true rfl⟩ rfl rfl (Nat.le_of_ble_eq_true rfl) dX11_read_114 (fun H locs hW hS => ?_)
                  clear hq
                  refine z_ifeqZ C0 (tgt := 133) dX11_read_117 (by decide) (fun hc => ?_) (fun hc => ?_)
                  · replace h := z_ff h hc
                    clear hc
                    refine lv_aload_n hx hb dX11_read_133 rfl (lv_at hl 1 rfl) ?_
                    refine lv_aload_n hx hb dX11_read_134 rfl (lv_at hl 1 rfl) ?_
                    refine z_geti C0 hW fl_X11_79 rfl rfl dX11_read_135 ?_
                    obtain ⟨u25, hq⟩ : ∃ y, f_X11_wrong (u24 0 11) u24 = y := ⟨_, rfl⟩
                    replace h := z_lz h hq
                    refine z_cvv (As := [.int (u24 0 11)]) C0 hml hl.1 hW hS (c_X11_wrong l D A b (u24 0 11) u24 hq) mv_X11_104 rfl ⟨Nat.le_of_ble_eq_true rfl, Nat.le_of_ble_eq_true rfl⟩ rfl rfl (Nat.le_of_ble_eq_true rfl) dX11_read_138 (fun H locs hW hS => ?_)
                    clear hq
                    refine lv_goto (tgt := 23) hx hb dX11_read_141 (by decide) ?_
                    exact ih _ _ _ _ _ _ _ h hW hS (lv_sub hl [1, 2, 3, 0] rfl)
                  · replace h := z_t h hc
                    clear hc
                    refine lv_aload_n hx hb dX11_read_120 rfl (lv_at hl 1 rfl) ?_
                    refine lv_dup hx hb dX11_read_121 rfl ?_
                    refine z_geti C0 hW fl_X11_79 rfl rfl dX11_read_122 ?_
                    refine lv_iconst (v := (1 : Int32)) hx hb dX11_read_125 (by decide) ?_
                    refine lv_iadd hx hb dX11_read_126 ?_
                    refine z_puti C0 hW hS fl_X11_79 rfl rfl rfl rfl dX11_read_127 (fun H locs u26 e1 hW hS => ?_)
                    replace h := z_ly h e1
                    clear e1
                    refine lv_goto (tgt := 23) hx hb dX11_read_130 (by decide) ?_
                    exact ih _ _ _ _ _ _ _ h hW hS (lv_sub hl [1, 2, 3, 0] rfl)
                · replace h := z_t h hc
                  clear hc
                  refine lv_iconst (v := (0 : Int32)) hx hb dX11_read_106 (by decide) ?_
                  refine lv_istore_n (lv' := [(2, .int (0 : Int32)), (3, .int (x3 + (1 : Int32))), (0, .ref (b + 0)), (1, .int (bI x1))]) hx hb dX11_read_107 rfl hl (by decide) rfl (fun ls hl => ?_)
                  refine lv_goto (tgt := 23) hx hb dX11_read_108 (by decide) ?_
                  exact ih _ _ _ _ _ _ _ h hW hS (lv_sub hl [2, 3, 0, 1] rfl)
            · replace h := z_t h hc
              clear hc
              refine lv_aload_n hx hb dX11_read_69 rfl (lv_at hl 0 rfl) ?_
              replace h := z_bd h
              obtain ⟨u27, hq, h⟩ := h
              refine z_cvv (As := []) C0 hml hl.1 hW hS (c_X11_lawLine l D A b u2 hq) mv_X11_160 rfl ⟨Nat.le_of_ble_eq_true rfl, Nat.le_of_ble_eq_true rfl⟩ rfl rfl (Nat.le_of_ble_eq_true rfl) dX11_read_70 (fun H locs hW hS => ?_)
              clear hq
              refine lv_goto (tgt := 80) hx hb dX11_read_73 (by decide) ?_
              refine lv_iinc (v := x3 + (1 : Int32)) (lv' := [(3, .int (x3 + (1 : Int32))), (0, .ref (b + 0)), (1, .int (bI x1)), (2, .int x2)]) hx hb dX11_read_80 hl (k := 3) rfl rfl (by decide) rfl (fun ls hl => ?_)
              refine lv_aload_n hx hb dX11_read_83 rfl (lv_at hl 1 rfl) ?_
              replace h := z_bd h
              obtain ⟨u28, hq, h⟩ := h
              refine z_cvv (As := []) C0 hml hl.1 hW hS (c_X11_skip l D A b u27 hq) mv_X11_88 rfl ⟨Nat.le_of_ble_eq_true rfl, Nat.le_of_ble_eq_true rfl⟩ rfl rfl (Nat.le_of_ble_eq_true rfl) dX11_read_84 (fun H locs hW hS => ?_)
              clear hq
              refine lv_aload_n hx hb dX11_read_87 rfl (lv_at hl 1 rfl) ?_
              refine z_geti C0 hW fl_X11_25 rfl rfl dX11_read_88 ?_
              refine lv_iconst (v := (-1 : Int32)) hx hb dX11_read_91 (by decide) ?_
              refine lv_icmp_ne (tgt := 106) hx hb dX11_read_92 (by decide) (fun hc => ?_) (fun hc => ?_)
              · replace h := z_f h hc
                clear hc
                refine lv_iconst (v := (0 : Int32)) hx hb dX11_read_106 (by decide) ?_
                refine lv_istore_n (lv' := [(2, .int (0 : Int32)), (3, .int (x3 + (1 : Int32))), (0, .ref (b + 0)), (1, .int (bI x1))]) hx hb dX11_read_107 rfl hl (by decide) rfl (fun ls hl => ?_)
                refine lv_goto (tgt := 23) hx hb dX11_read_108 (by decide) ?_
                exact ih _ _ _ _ _ _ _ h hW hS (lv_sub hl [2, 3, 0, 1] rfl)
              · replace h := z_t h hc
                clear hc
                refine lv_aload_n hx hb dX11_read_95 rfl (lv_at hl 1 rfl) ?_
                refine z_geti C0 hW fl_X11_79 rfl rfl dX11_read_96 ?_
                refine lv_aload_n hx hb dX11_read_99 rfl (lv_at hl 1 rfl) ?_
                refine z_geti C0 hW fl_X11_82 rfl rfl dX11_read_100 ?_
                refine lv_icmp_ne (tgt := 111) hx hb dX11_read_103 (by decide) (fun hc => ?_) (fun hc => ?_)
                · replace h := z_f h hc
                  clear hc
                  refine lv_aload_n hx hb dX11_read_111 rfl (lv_at hl 1 rfl) ?_
                  refine lv_bipush (v := (59 : Int32)) hx hb dX11_read_112 (by decide) ?_
                  replace h := z_bd2 h
                  obtain ⟨t29, u30, hq, h⟩ := h
                  refine z_cvi (As := [.int (59 : Int32)]) C0 hml hl.1 hW hS (c_X11_isSign l D A b (59 : Int32) u28 hq) mv_X11_166 rfl ⟨Nat.le_of_ble_eq_true rfl, Nat.le_of_ble_eq_true rfl⟩ rfl rfl (Nat.le_of_ble_eq_true rfl) dX11_read_114 (fun H locs hW hS => ?_)
                  clear hq
                  refine z_ifeqZ C0 (tgt := 133) dX11_read_117 (by decide) (fun hc => ?_) (fun hc => ?_)
                  · replace h := z_ff h hc
                    clear hc
                    refine lv_aload_n hx hb dX11_read_133 rfl (lv_at hl 1 rfl) ?_
                    refine lv_aload_n hx hb dX11_read_134 rfl (lv_at hl 1 rfl) ?_
                    refine z_geti C0 hW fl_X11_79 rfl rfl dX11_read_135 ?_
                    obtain ⟨u31, hq⟩ : ∃ y, f_X11_wrong (u30 0 11) u30 = y := ⟨_, rfl⟩
                    replace h := z_lz h hq
                    refine z_cvv (As := [.int (u30 0 11)]) C0 hml hl.1 hW hS (c_X11_wrong l D A b (u30 0 11) u30 hq) mv_X11_104 rfl ⟨Nat.le_of_ble_eq_true rfl, Nat.le_of_ble_eq_true rfl⟩ rfl rfl (Nat.le_of_ble_eq_true rfl) dX11_read_138 (fun H locs hW hS => ?_)
                    clear hq
                    refine lv_goto (tgt := 23) hx hb dX11_read_141 (by decide) ?_
                    exact ih _ _ _ _ _ _ _ h hW hS (lv_sub hl [1, 2, 3, 0] rfl)
                  · replace h := z_t h hc
                    clear hc
                    refine lv_aload_n hx hb dX11_read_120 rfl (lv_at hl 1 rfl) ?_
                    refine lv_dup hx hb dX11_read_121 rfl ?_
                    refine z_geti C0 hW fl_X11_79 rfl rfl dX11_read_122 ?_
                    refine lv_iconst (v := (1 : Int32)) hx hb dX11_read_125 (by decide) ?_
                    refine lv_iadd hx hb dX11_read_126 ?_
                    refine z_puti C0 hW hS fl_X11_79 rfl rfl rfl rfl dX11_read_127 (fun H locs u32 e1 hW hS => ?_)
                    replace h := z_ly h e1
                    clear e1
                    refine lv_goto (tgt := 23) hx hb dX11_read_130 (by decide) ?_
                    exact ih _ _ _ _ _ _ _ h hW hS (lv_sub hl [1, 2, 3, 0] rfl)
                · replace h := z_t h hc
                  clear hc
                  refine lv_iconst (v := (0 : Int32)) hx hb dX11_read_106 (by decide) ?_
                  refine lv_istore_n (lv' := [(2, .int (0 : Int32)), (3, .int (x3 + (1 : Int32))), (0, .ref (b + 0)), (1, .int (bI x1))]) hx hb dX11_read_107 rfl hl (by decide) rfl (fun ls hl => ?_)
                  refine lv_goto (tgt := 23) hx hb dX11_read_108 (by decide) ?_
                  exact ih _ _ _ _ _ _ _ h hW hS (lv_sub hl [2, 3, 0, 1] rfl)
          · replace h := z_t h hc
            clear hc
            refine lv_aload_n hx hb dX11_read_54 rfl (lv_at hl 0 rfl) ?_
            refine lv_aload_n hx hb dX11_read_55 rfl (lv_at hl 0 rfl) ?_
            refine z_geti C0 hW fl_X11_79 rfl rfl dX11_read_56 ?_
            obtain ⟨u33, hq⟩ : ∃ y, f_X11_wrong (u2 0 11) u2 = y := ⟨_, rfl⟩
            replace h := z_lz h hq
            refine z_cvv (As := [.int (u2 0 11)]) C0 hml hl.1 hW hS (c_X11_wrong l D A b (u2 0 11) u2 hq) mv_X11_104 rfl ⟨Nat.le_of_ble_eq_true rfl, Nat.le_of_ble_eq_true rfl⟩ rfl rfl (Nat.le_of_ble_eq_true rfl) dX11_read_59 (fun H locs hW hS => ?_)
            clear hq
            refine lv_goto (tgt := 80) hx hb dX11_read_62 (by decide) ?_
            refine lv_iinc (v := x3 + (1 : Int32)) (lv' := [(3, .int (x3 + (1 : Int32))), (0, .ref (b + 0)), (1, .int (bI x1)), (2, .int x2)]) hx hb dX11_read_80 hl (k := 3) rfl rfl (by decide) rfl (fun ls hl => ?_)
            refine lv_aload_n hx hb dX11_read_83 rfl (lv_at hl 1 rfl) ?_
            replace h := z_bd h
            obtain ⟨u34, hq, h⟩ := h
            refine z_cvv (As := []) C0 hml hl.1 hW hS (c_X11_skip l D A b u33 hq) mv_X11_88 rfl ⟨Nat.le_of_ble_eq_true rfl, Nat.le_of_ble_eq_true rfl⟩ rfl rfl (Nat.le_of_ble_eq_true rfl) dX11_read_84 (fun H locs hW hS => ?_)
            clear hq
            refine lv_aload_n hx hb dX11_read_87 rfl (lv_at hl 1 rfl) ?_
            refine z_geti C0 hW fl_X11_25 rfl rfl dX11_read_88 ?_
            refine lv_iconst (v := (-1 : Int32)) hx hb dX11_read_91 (by decide) ?_
            refine lv_icmp_ne (tgt := 106) hx hb dX11_read_92 (by decide) (fun hc => ?_) (fun hc => ?_)
            · replace h := z_f h hc
              clear hc
              refine lv_iconst (v := (0 : Int32)) hx hb dX11_read_106 (by decide) ?_
              refine lv_istore_n (lv' := [(2, .int (0 : Int32)), (3, .int (x3 + (1 : Int32))), (0, .ref (b + 0)), (1, .int (bI x1))]) hx hb dX11_read_107 rfl hl (by decide) rfl (fun ls hl => ?_)
              refine lv_goto (tgt := 23) hx hb dX11_read_108 (by decide) ?_
              exact ih _ _ _ _ _ _ _ h hW hS (lv_sub hl [2, 3, 0, 1] rfl)
            · replace h := z_t h hc
              clear hc
              refine lv_aload_n hx hb dX11_read_95 rfl (lv_at hl 1 rfl) ?_
              refine z_geti C0 hW fl_X11_79 rfl rfl dX11_read_96 ?_
              refine lv_aload_n hx hb dX11_read_99 rfl (lv_at hl 1 rfl) ?_
              refine z_geti C0 hW fl_X11_82 rfl rfl dX11_read_100 ?_
              refine lv_icmp_ne (tgt := 111) hx hb dX11_read_103 (by decide) (fun hc => ?_) (fun hc => ?_)
              · replace h := z_f h hc
                clear hc
                refine lv_aload_n hx hb dX11_read_111 rfl (lv_at hl 1 rfl) ?_
                refine lv_bipush (v := (59 : Int32)) hx hb dX11_read_112 (by decide) ?_
                replace h := z_bd2 h
                obtain ⟨t35, u36, hq, h⟩ := h
                refine z_cvi (As := [.int (59 : Int32)]) C0 hml hl.1 hW hS (c_X11_isSign l D A b (59 : Int32) u34 hq) mv_X11_166 rfl ⟨Nat.le_of_ble_eq_true rfl, Nat.le_of_ble_eq_true rfl⟩ rfl rfl (Nat.le_of_ble_eq_true rfl) dX11_read_114 (fun H locs hW hS => ?_)
                clear hq
                refine z_ifeqZ C0 (tgt := 133) dX11_read_117 (by decide) (fun hc => ?_) (fun hc => ?_)
                · replace h := z_ff h hc
                  clear hc
                  refine lv_aload_n hx hb dX11_read_133 rfl (lv_at hl 1 rfl) ?_
                  refine lv_aload_n hx hb dX11_read_134 rfl (lv_at hl 1 rfl) ?_
                  refine z_geti C0 hW fl_X11_79 rfl rfl dX11_read_135 ?_
                  obtain ⟨u37, hq⟩ : ∃ y, f_X11_wrong (u36 0 11) u36 = y := ⟨_, rfl⟩
                  replace h := z_lz h hq
                  refine z_cvv (As := [.int (u36 0 11)]) C0 hml hl.1 hW hS (c_X11_wrong l D A b (u36 0 11) u36 hq) mv_X11_104 rfl ⟨Nat.le_of_ble_eq_true rfl, Nat.le_of_ble_eq_true rfl⟩ rfl rfl (Nat.le_of_ble_eq_true rfl) dX11_read_138 (fun H locs hW hS => ?_)
                  clear hq
                  refine lv_goto (tgt := 23) hx hb dX11_read_141 (by decide) ?_
                  exact ih _ _ _ _ _ _ _ h hW hS (lv_sub hl [1, 2, 3, 0] rfl)
                · replace h := z_t h hc
                  clear hc
                  refine lv_aload_n hx hb dX11_read_120 rfl (lv_at hl 1 rfl) ?_
                  refine lv_dup hx hb dX11_read_121 rfl ?_
                  refine z_geti C0 hW fl_X11_79 rfl rfl dX11_read_122 ?_
                  refine lv_iconst (v := (1 : Int32)) hx hb dX11_read_125 (by decide) ?_
                  refine lv_iadd hx hb dX11_read_126 ?_
                  refine z_puti C0 hW hS fl_X11_79 rfl rfl rfl rfl dX11_read_127 (fun H locs u38 e1 hW hS => ?_)
                  replace h := z_ly h e1
                  clear e1
                  refine lv_goto (tgt := 23) hx hb dX11_read_130 (by decide) ?_
                  exact ih _ _ _ _ _ _ _ h hW hS (lv_sub hl [1, 2, 3, 0] rfl)
              · replace h := z_t h hc
                clear hc
                refine lv_iconst (v := (0 : Int32)) hx hb dX11_read_106 (by decide) ?_
                refine lv_istore_n (lv' := [(2, .int (0 : Int32)), (3, .int (x3 + (1 : Int32))), (0, .ref (b + 0)), (1, .int (bI x1))]) hx hb dX11_read_107 rfl hl (by decide) rfl (fun ls hl => ?_)
                refine lv_goto (tgt := 23) hx hb dX11_read_108 (by decide) ?_
                exact ih _ _ _ _ _ _ _ h hW hS (lv_sub hl [2, 3, 0, 1] rfl)
theorem f_X11_read_e (a1 : Bool) (u : zU) : f_X11_read a1 u = (f_X11_skip u).bind (fun u1 => if (u1 0 10) ≤ (u1 0 11) then (f_X11_read_23 5000 a1 (0 : Int32) (0 : Int32) u1) else (f_X11_read_23 5000 a1 (1 : Int32) (0 : Int32) u1)) := rfl
set_option maxRecDepth 100000 in
set_option maxHeartbeats 4000000 in
theorem c_X11_read (l : Launch) (D : zD) (A : Nat → Prop) (b : Nat) (a1 : Bool) (u : zU) {v : Int32} {u' : zU} (h : f_X11_read a1 u = some (v, u')) : z_M l D A b gM yX11_read cX11_read 4 (some .int) 40 1305 [.ref (b + 0), .int (bI a1)] u (some (.int v)) u' := by
  refine z_enter (by decide) (Nat.le_of_ble_eq_true rfl) ?_
  intro p e s m below meth c ls C0 hr hml hlk hW hS hl
  have hl : lv_has ls 4 [(0, .ref (b + 0)), (1, .int (bI a1))] := hl
  have hx := C0.1
  have hb := C0.2.1
  rw [f_X11_read_e] at h
  refine lv_aload_n hx hb dX11_read_0 rfl (lv_at hl 0 rfl) ?_
  replace h := z_bd h
  obtain ⟨u1, hq, h⟩ := h
  refine z_cvv (As := []) C0 hml hl.1 hW hS (c_X11_skip l D A b u hq) mv_X11_88 rfl ⟨Nat.le_of_ble_eq_true rfl, Nat.le_of_ble_eq_true rfl⟩ rfl rfl (Nat.le_of_ble_eq_true rfl) dX11_read_1 (fun H locs hW hS => ?_)
  clear hq
  refine lv_aload_n hx hb dX11_read_4 rfl (lv_at hl 0 rfl) ?_
  refine z_geti C0 hW fl_X11_79 rfl rfl dX11_read_5 ?_
  refine lv_aload_n hx hb dX11_read_8 rfl (lv_at hl 0 rfl) ?_
  refine z_geti C0 hW fl_X11_82 rfl rfl dX11_read_9 ?_
  refine lv_icmp_ge (tgt := 19) hx hb dX11_read_12 (by decide) (fun hc => ?_) (fun hc => ?_)
  · replace h := z_t h hc
    clear hc
    refine lv_iconst (v := (0 : Int32)) hx hb dX11_read_19 (by decide) ?_
    refine lv_istore_n (lv' := [(2, .int (0 : Int32)), (0, .ref (b + 0)), (1, .int (bI a1))]) hx hb dX11_read_20 rfl hl (by decide) rfl (fun ls hl => ?_)
    refine lv_iconst (v := (0 : Int32)) hx hb dX11_read_21 (by decide) ?_
    refine lv_istore_n (lv' := [(3, .int (0 : Int32)), (2, .int (0 : Int32)), (0, .ref (b + 0)), (1, .int (bI a1))]) hx hb dX11_read_22 rfl hl (by decide) rfl (fun ls hl => ?_)
    exact l_X11_read_23 C0 hr hml hlk 5000 _ _ _ _ _ _ _ h hW hS (lv_sub hl [2, 3, 1, 0] rfl)
  · replace h := z_f h hc
    clear hc
    refine lv_iconst (v := (1 : Int32)) hx hb dX11_read_15 (by decide) ?_
    refine lv_goto (tgt := 20) hx hb dX11_read_16 (by decide) ?_
    refine lv_istore_n (lv' := [(2, .int (1 : Int32)), (0, .ref (b + 0)), (1, .int (bI a1))]) hx hb dX11_read_20 rfl hl (by decide) rfl (fun ls hl => ?_)
    refine lv_iconst (v := (0 : Int32)) hx hb dX11_read_21 (by decide) ?_
    refine lv_istore_n (lv' := [(3, .int (0 : Int32)), (2, .int (1 : Int32)), (0, .ref (b + 0)), (1, .int (bI a1))]) hx hb dX11_read_22 rfl hl (by decide) rfl (fun ls hl => ?_)
    exact l_X11_read_23 C0 hr hml hlk 5000 _ _ _ _ _ _ _ h hW hS (lv_sub hl [2, 3, 1, 0] rfl)
def f_X11_fair  (u : zU) : Option (Int32 × zU) :=
  (f_X11_putsAside u).bind (fun u1 => z_let (f_X11_begins u1) (fun u2 => z_b2 (f_X11_read false u2) (fun r3 u4 => if (u4 0 12) = (-1 : Int32) then (if (u4 1 0) = (12 : Int32) then (z_let (z_up u4 0 0 (2 : Int32)) (fun u9 => if (u9 0 0) ≤ 0 then (z_let (z_up u9 1 0 ((u9 1 0) + (1 : Int32))) (fun u10 => z_let (z_up u10 0 6 (0 : Int32)) (fun u11 => some (u11 1 0, u11)))) else ((f_X11_comesBack u9).bind (fun u12 => some ((0 : Int32), u12))))) else (z_let (z_up u4 0 0 (0 : Int32)) (fun u5 => if (u5 0 0) ≤ 0 then (z_let (z_up u5 1 0 ((u5 1 0) + (1 : Int32))) (fun u6 => z_let (z_up u6 0 6 (0 : Int32)) (fun u7 => some (u7 1 0, u7)))) else ((f_X11_comesBack u5).bind (fun u8 => some ((0 : Int32), u8)))))) else (z_let (z_up u4 0 0 (1 : Int32)) (fun u13 => if (u13 0 0) ≤ 0 then (z_let (z_up u13 1 0 ((u13 1 0) + (1 : Int32))) (fun u14 => z_let (z_up u14 0 6 (0 : Int32)) (fun u15 => some (u15 1 0, u15)))) else ((f_X11_comesBack u13).bind (fun u16 => some ((0 : Int32), u16))))))))
theorem f_X11_fair_e  (u : zU) : f_X11_fair u = (f_X11_putsAside u).bind (fun u1 => z_let (f_X11_begins u1) (fun u2 => z_b2 (f_X11_read false u2) (fun r3 u4 => if (u4 0 12) = (-1 : Int32) then (if (u4 1 0) = (12 : Int32) then (z_let (z_up u4 0 0 (2 : Int32)) (fun u9 => if (u9 0 0) ≤ 0 then (z_let (z_up u9 1 0 ((u9 1 0) + (1 : Int32))) (fun u10 => z_let (z_up u10 0 6 (0 : Int32)) (fun u11 => some (u11 1 0, u11)))) else ((f_X11_comesBack u9).bind (fun u12 => some ((0 : Int32), u12))))) else (z_let (z_up u4 0 0 (0 : Int32)) (fun u5 => if (u5 0 0) ≤ 0 then (z_let (z_up u5 1 0 ((u5 1 0) + (1 : Int32))) (fun u6 => z_let (z_up u6 0 6 (0 : Int32)) (fun u7 => some (u7 1 0, u7)))) else ((f_X11_comesBack u5).bind (fun u8 => some ((0 : Int32), u8)))))) else (z_let (z_up u4 0 0 (1 : Int32)) (fun u13 => if (u13 0 0) ≤ 0 then (z_let (z_up u13 1 0 ((u13 1 0) + (1 : Int32))) (fun u14 => z_let (z_up u14 0 6 (0 : Int32)) (fun u15 => some (u15 1 0, u15)))) else ((f_X11_comesBack u13).bind (fun u16 => some ((0 : Int32), u16)))))))) := rfl
set_option maxRecDepth 100000 in
set_option maxHeartbeats 4000000 in
theorem c_X11_fair (l : Launch) (D : zD) (A : Nat → Prop) (b : Nat)  (u : zU) {v : Int32} {u' : zU} (h : f_X11_fair u = some (v, u')) : z_M l D A b gM yX11_fair cX11_fair 2 (some .int) 41 1328 [.ref (b + 0)] u (some (.int v)) u' := by
  refine z_enter (by decide) (Nat.le_of_ble_eq_true rfl) ?_
  intro p e s m below meth c ls C0 hr hml hlk hW hS hl
  have hl : lv_has ls 2 [(0, .ref (b + 0))] := hl
  have hx := C0.1
  have hb := C0.2.1
  rw [f_X11_fair_e] at h
  refine lv_aload_n hx hb dX11_fair_0 rfl (lv_at hl 0 rfl) ?_
  replace h := z_bd h
  obtain ⟨u1, hq, h⟩ := h
  refine z_cvv (As := []) C0 hml hl.1 hW hS (c_X11_putsAside l D A b u hq) mv_X11_169 rfl ⟨Nat.le_of_ble_eq_true rfl, Nat.le_of_ble_eq_true rfl⟩ rfl rfl (Nat.le_of_ble_eq_true rfl) dX11_fair_1 (fun H locs hW hS => ?_)
  clear hq
  refine lv_aload_n hx hb dX11_fair_4 rfl (lv_at hl 0 rfl) ?_
  obtain ⟨u2, hq⟩ : ∃ y, f_X11_begins u1 = y := ⟨_, rfl⟩
  replace h := z_lz h hq
  refine z_cvv (As := []) C0 hml hl.1 hW hS (c_X11_begins l D A b u1 hq) mv_X11_172 rfl ⟨Nat.le_of_ble_eq_true rfl, Nat.le_of_ble_eq_true rfl⟩ rfl rfl (Nat.le_of_ble_eq_true rfl) dX11_fair_5 (fun H locs hW hS => ?_)
  clear hq
  refine lv_aload_n hx hb dX11_fair_8 rfl (lv_at hl 0 rfl) ?_
  refine lv_iconst (v := (0 : Int32)) hx hb dX11_fair_9 (by decide) ?_
  replace h := z_bd2 h
  obtain ⟨r3, u4, hq, h⟩ := h
  refine z_cvi (As := [.int (bI false)]) C0 hml hl.1 hW hS (c_X11_read l D A b false u2 hq) mv_X11_175 rfl ⟨Nat.le_of_ble_eq_true rfl, Nat.le_of_ble_eq_true rfl⟩ rfl rfl (Nat.le_of_ble_eq_true rfl) dX11_fair_10 (fun H locs hW hS => ?_)
  clear hq
  refine lv_istore_n (lv' := [(1, .int r3), (0, .ref (b + 0))]) hx hb dX11_fair_13 rfl hl (by decide) rfl (fun ls hl => ?_)
  refine lv_aload_n hx hb dX11_fair_14 rfl (lv_at hl 1 rfl) ?_
  refine lv_aload_n hx hb dX11_fair_15 rfl (lv_at hl 1 rfl) ?_
  refine z_geti C0 hW fl_X11_25 rfl rfl dX11_fair_16 ?_
  refine lv_iconst (v := (-1 : Int32)) hx hb dX11_fair_19 (by decide) ?_
  refine lv_icmp_eq (tgt := 27) hx hb dX11_fair_20 (by decide) (fun hc => ?_) (fun hc => ?_)
  · replace h := z_t h hc
    clear hc
    refine lv_aload_n hx hb dX11_fair_27 rfl (lv_at hl 1 rfl) ?_
    refine z_getr (o := 1) C0 hW fl_X11_7 rfl rfl rfl dX11_fair_28 ?_
    refine lv_iconst (v := (0 : Int32)) hx hb dX11_fair_31 (by decide) ?_
    refine z_iald (k := 0) (n := 705) C0 hW rfl rfl (by decide) (by decide) dX11_fair_32 ?_
    refine lv_bipush (v := (12 : Int32)) hx hb dX11_fair_33 (by decide) ?_
    refine lv_icmp_ne (tgt := 42) hx hb dX11_fair_35 (by decide) (fun hc => ?_) (fun hc => ?_)
    · replace h := z_f h hc
      clear hc
      refine lv_iconst (v := (0 : Int32)) hx hb dX11_fair_42 (by decide) ?_
      refine z_puti C0 hW hS fl_X11_42 rfl rfl rfl rfl dX11_fair_43 (fun H locs u5 e1 hW hS => ?_)
      replace h := z_ly h e1
      clear e1
      refine lv_aload_n hx hb dX11_fair_46 rfl (lv_at hl 1 rfl) ?_
      refine z_geti C0 hW fl_X11_42 rfl rfl dX11_fair_47 ?_
      refine lv_if_le (tgt := 59) hx hb dX11_fair_50 (by decide) (fun hc => ?_) (fun hc => ?_)
      · replace h := z_t h hc
        clear hc
        refine lv_aload_n hx hb dX11_fair_59 rfl (lv_at hl 1 rfl) ?_
        refine z_getr (o := 1) C0 hW fl_X11_7 rfl rfl rfl dX11_fair_60 ?_
        refine lv_iconst (v := (0 : Int32)) hx hb dX11_fair_63 (by decide) ?_
        refine lv_dup2_11 hx hb dX11_fair_64 rfl rfl ?_
        refine z_iald (k := 0) (n := 705) C0 hW rfl rfl (by decide) (by decide) dX11_fair_65 ?_
        refine lv_iconst (v := (1 : Int32)) hx hb dX11_fair_66 (by decide) ?_
        refine lv_iadd hx hb dX11_fair_67 ?_
        refine z_iast (k := 0) (n := 705) C0 hW hS rfl rfl (by decide) (by decide) dX11_fair_68 (fun H locs u6 e1 hW hS => ?_)
        replace h := z_ly h e1
        clear e1
        refine lv_aload_n hx hb dX11_fair_69 rfl (lv_at hl 1 rfl) ?_
        refine lv_iconst (v := (0 : Int32)) hx hb dX11_fair_70 (by decide) ?_
        refine z_puti C0 hW hS fl_X11_182 rfl rfl rfl rfl dX11_fair_71 (fun H locs u7 e1 hW hS => ?_)
        replace h := z_ly h e1
        clear e1
        refine lv_aload_n hx hb dX11_fair_74 rfl (lv_at hl 1 rfl) ?_
        refine z_getr (o := 1) C0 hW fl_X11_7 rfl rfl rfl dX11_fair_75 ?_
        refine lv_iconst (v := (0 : Int32)) hx hb dX11_fair_78 (by decide) ?_
        refine z_iald (k := 0) (n := 705) C0 hW rfl rfl (by decide) (by decide) dX11_fair_79 ?_
        cases h
        exact z_iret C0 hr hlk hW hS dX11_fair_80
      · replace h := z_f h hc
        clear hc
        refine lv_aload_n hx hb dX11_fair_53 rfl (lv_at hl 1 rfl) ?_
        replace h := z_bd h
        obtain ⟨u8, hq, h⟩ := h
        refine z_cvv (As := []) C0 hml hl.1 hW hS (c_X11_comesBack l D A b u5 hq) mv_X11_179 rfl ⟨Nat.le_of_ble_eq_true rfl, Nat.le_of_ble_eq_true rfl⟩ rfl rfl (Nat.le_of_ble_eq_true rfl) dX11_fair_54 (fun H locs hW hS => ?_)
        clear hq
        refine lv_iconst (v := (0 : Int32)) hx hb dX11_fair_57 (by decide) ?_
        cases h
        exact z_iret C0 hr hlk hW hS dX11_fair_58
    · replace h := z_t h hc
      clear hc
      refine lv_iconst (v := (2 : Int32)) hx hb dX11_fair_38 (by decide) ?_
      refine lv_goto (tgt := 43) hx hb dX11_fair_39 (by decide) ?_
      refine z_puti C0 hW hS fl_X11_42 rfl rfl rfl rfl dX11_fair_43 (fun H locs u9 e1 hW hS => ?_)
      replace h := z_ly h e1
      clear e1
      refine lv_aload_n hx hb dX11_fair_46 rfl (lv_at hl 1 rfl) ?_
      refine z_geti C0 hW fl_X11_42 rfl rfl dX11_fair_47 ?_
      refine lv_if_le (tgt := 59) hx hb dX11_fair_50 (by decide) (fun hc => ?_) (fun hc => ?_)
      · replace h := z_t h hc
        clear hc
        refine lv_aload_n hx hb dX11_fair_59 rfl (lv_at hl 1 rfl) ?_
        refine z_getr (o := 1) C0 hW fl_X11_7 rfl rfl rfl dX11_fair_60 ?_
        refine lv_iconst (v := (0 : Int32)) hx hb dX11_fair_63 (by decide) ?_
        refine lv_dup2_11 hx hb dX11_fair_64 rfl rfl ?_
        refine z_iald (k := 0) (n := 705) C0 hW rfl rfl (by decide) (by decide) dX11_fair_65 ?_
        refine lv_iconst (v := (1 : Int32)) hx hb dX11_fair_66 (by decide) ?_
        refine lv_iadd hx hb dX11_fair_67 ?_
        refine z_iast (k := 0) (n := 705) C0 hW hS rfl rfl (by decide) (by decide) dX11_fair_68 (fun H locs u10 e1 hW hS => ?_)
        replace h := z_ly h e1
        clear e1
        refine lv_aload_n hx hb dX11_fair_69 rfl (lv_at hl 1 rfl) ?_
        refine lv_iconst (v := (0 : Int32)) hx hb dX11_fair_70 (by decide) ?_
        refine z_puti C0 hW hS fl_X11_182 rfl rfl rfl rfl dX11_fair_71 (fun H locs u11 e1 hW hS => ?_)
        replace h := z_ly h e1
        clear e1
        refine lv_aload_n hx hb dX11_fair_74 rfl (lv_at hl 1 rfl) ?_
        refine z_getr (o := 1) C0 hW fl_X11_7 rfl rfl rfl dX11_fair_75 ?_
        refine lv_iconst (v := (0 : Int32)) hx hb dX11_fair_78 (by decide) ?_
        refine z_iald (k := 0) (n := 705) C0 hW rfl rfl (by decide) (by decide) dX11_fair_79 ?_
        cases h
        exact z_iret C0 hr hlk hW hS dX11_fair_80
      · replace h := z_f h hc
        clear hc
        refine lv_aload_n hx hb dX11_fair_53 rfl (lv_at hl 1 rfl) ?_
        replace h := z_bd h
        obtain ⟨u12, hq, h⟩ := h
        refine z_cvv (As := []) C0 hml hl.1 hW hS (c_X11_comesBack l D A b u9 hq) mv_X11_179 rfl ⟨Nat.le_of_ble_eq_true rfl, Nat.le_of_ble_eq_true rfl⟩ rfl rfl (Nat.le_of_ble_eq_true rfl) dX11_fair_54 (fun H locs hW hS => ?_)
        clear hq
        refine lv_iconst (v := (0 : Int32)) hx hb dX11_fair_57 (by decide) ?_
        cases h
        exact z_iret C0 hr hlk hW hS dX11_fair_58
  · replace h := z_f h hc
    clear hc
    refine lv_iconst (v := (1 : Int32)) hx hb dX11_fair_23 (by decide) ?_
    refine lv_goto (tgt := 43) hx hb dX11_fair_24 (by decide) ?_
    refine z_puti C0 hW hS fl_X11_42 rfl rfl rfl rfl dX11_fair_43 (fun H locs u13 e1 hW hS => ?_)
    replace h := z_ly h e1
    clear e1
    refine lv_aload_n hx hb dX11_fair_46 rfl (lv_at hl 1 rfl) ?_
    refine z_geti C0 hW fl_X11_42 rfl rfl dX11_fair_47 ?_
    refine lv_if_le (tgt := 59) hx hb dX11_fair_50 (by decide) (fun hc => ?_) (fun hc => ?_)
    · replace h := z_t h hc
      clear hc
      refine lv_aload_n hx hb dX11_fair_59 rfl (lv_at hl 1 rfl) ?_
      refine z_getr (o := 1) C0 hW fl_X11_7 rfl rfl rfl dX11_fair_60 ?_
      refine lv_iconst (v := (0 : Int32)) hx hb dX11_fair_63 (by decide) ?_
      refine lv_dup2_11 hx hb dX11_fair_64 rfl rfl ?_
      refine z_iald (k := 0) (n := 705) C0 hW rfl rfl (by decide) (by decide) dX11_fair_65 ?_
      refine lv_iconst (v := (1 : Int32)) hx hb dX11_fair_66 (by decide) ?_
      refine lv_iadd hx hb dX11_fair_67 ?_
      refine z_iast (k := 0) (n := 705) C0 hW hS rfl rfl (by decide) (by decide) dX11_fair_68 (fun H locs u14 e1 hW hS => ?_)
      replace h := z_ly h e1
      clear e1
      refine lv_aload_n hx hb dX11_fair_69 rfl (lv_at hl 1 rfl) ?_
      refine lv_iconst (v := (0 : Int32)) hx hb dX11_fair_70 (by decide) ?_
      refine z_puti C0 hW hS fl_X11_182 rfl rfl rfl rfl dX11_fair_71 (fun H locs u15 e1 hW hS => ?_)
      replace h := z_ly h e1
      clear e1
      refine lv_aload_n hx hb dX11_fair_74 rfl (lv_at hl 1 rfl) ?_
      refine z_getr (o := 1) C0 hW fl_X11_7 rfl rfl rfl dX11_fair_75 ?_
      refine lv_iconst (v := (0 : Int32)) hx hb dX11_fair_78 (by decide) ?_
      refine z_iald (k := 0) (n := 705) C0 hW rfl rfl (by decide) (by decide) dX11_fair_79 ?_
      cases h
      exact z_iret C0 hr hlk hW hS dX11_fair_80
    · replace h := z_f h hc
      clear hc
      refine lv_aload_n hx hb dX11_fair_53 rfl (lv_at hl 1 rfl) ?_
      replace h := z_bd h
      obtain ⟨u16, hq, h⟩ := h
      refine z_cvv (As := []) C0 hml hl.1 hW hS (c_X11_comesBack l D A b u13 hq) mv_X11_179 rfl ⟨Nat.le_of_ble_eq_true rfl, Nat.le_of_ble_eq_true rfl⟩ rfl rfl (Nat.le_of_ble_eq_true rfl) dX11_fair_54 (fun H locs hW hS => ?_)
      clear hq
      refine lv_iconst (v := (0 : Int32)) hx hb dX11_fair_57 (by decide) ?_
      cases h
      exact z_iret C0 hr hlk hW hS dX11_fair_58
def f_X11_law_55 : Nat → Int32 → Int32 → zU → Option (Int32 × zU)
  | 0, _, _, _ => none
  | n + 1, x1, x2, u =>
    if (u 0 10) ≤ x2 then (z_let (z_up u 0 6 (0 : Int32)) (fun u7 => some (x1, u7))) else (if z_in x2 400 = true then (z_let (u 5 (x2).toNatClampNeg) (fun z8 => if z_in ((305 : Int32) + x2) 705 = true then (z_let (z_up u 1 ((305 : Int32) + x2).toNatClampNeg z8) (fun u9 => f_X11_law_55 n x1 (x2 + (1 : Int32)) u9)) else none)) else none)
theorem f_X11_law_55_s (n : Nat) (x1 : Int32) (x2 : Int32) (u : zU) : f_X11_law_55 (n + 1) x1 x2 u = if (u 0 10) ≤ x2 then (z_let (z_up u 0 6 (0 : Int32)) (fun u7 => some (x1, u7))) else (if z_in x2 400 = true then (z_let (u 5 (x2).toNatClampNeg) (fun z8 => if z_in ((305 : Int32) + x2) 705 = true then (z_let (z_up u 1 ((305 : Int32) + x2).toNatClampNeg z8) (fun u9 => f_X11_law_55 n x1 (x2 + (1 : Int32)) u9)) else none)) else none) := rfl
def f_X11_law  (u : zU) : Option (Int32 × zU) :=
  z_let (f_X11_begins u) (fun u1 => z_b2 (f_X11_read true u1) (fun r2 u3 => if (u3 0 12) = (-1 : Int32) then (z_let (z_up u3 0 0 (0 : Int32)) (fun u4 => if (u4 0 0) ≤ 0 then (z_let (z_up u4 1 1 r2) (fun u5 => z_let (z_up u5 1 2 (u5 0 10)) (fun u6 => f_X11_law_55 5000 r2 (0 : Int32) u6))) else (some ((0 : Int32), u4)))) else (z_let (z_up u3 0 0 (1 : Int32)) (fun u10 => if (u10 0 0) ≤ 0 then (z_let (z_up u10 1 1 r2) (fun u11 => z_let (z_up u11 1 2 (u11 0 10)) (fun u12 => f_X11_law_55 5000 r2 (0 : Int32) u12))) else (some ((0 : Int32), u10))))))
set_option maxRecDepth 100000 in
set_option maxHeartbeats 4000000 in
theorem l_X11_law_55 {l : Launch} {D : zD} {A : Nat → Prop} {b : Nat} {p : Program} {e : Env} {s : State} {m : MethodId} {args : Array Value} {below : List Frame} {meth : Method} {c : Code} {v : Int32} {u' : zU} (C0 : z_C p c cX11_law s m args yX11_law.cls D A) (hr : meth.sig.returnType = (some .int)) (hml : c.maxLocals = 3) (hlk : meth.locks = false) : ∀ (n : Nat) (x1 : Int32) (x2 : Int32) (u : zU) (H : Heap) (locs : List Loc) (ls : Array Slot), f_X11_law_55 n x1 x2 u = some (v, u') → z_W D A b gM u H → va_S A s.heap H locs → lv_has ls 3 [(0, .ref (b + 0)), (1, .int x1), (2, .int x2)] → W p l e { frames := 41, cells := 0, slots := 0, locals := 1328 } s m args below meth c H locs 0 0 (z_End D A b gM below args s (some (.int v)) u') (F0 m 55 ls []) := by
  have hx := C0.1
  have hb := C0.2.1
  intro n
  induction n with
  | zero => intro x1 x2 u H locs ls h hW hS hl; cases h
  | succ n ih =>
    intro x1 x2 u H locs ls h hW hS hl
    rw [f_X11_law_55_s] at h
    refine lv_iload_n hx hb dX11_law_55 rfl (lv_at hl 2 rfl) ?_
    refine lv_aload_n hx hb dX11_law_56 rfl (lv_at hl 0 rfl) ?_
    refine z_geti C0 hW fl_X11_82 rfl rfl dX11_law_57 ?_
    refine lv_icmp_ge (tgt := 85) hx hb dX11_law_60 (by decide) (fun hc => ?_) (fun hc => ?_)
    · replace h := z_t h hc
      clear hc
      refine lv_aload_n hx hb dX11_law_85 rfl (lv_at hl 0 rfl) ?_
      refine lv_iconst (v := (0 : Int32)) hx hb dX11_law_86 (by decide) ?_
      refine z_puti C0 hW hS fl_X11_182 rfl rfl rfl rfl dX11_law_87 (fun H locs u7 e1 hW hS => ?_)
      replace h := z_ly h e1
      clear e1
      refine lv_iload_n hx hb dX11_law_90 rfl (lv_at hl 1 rfl) ?_
      cases h
      exact z_iret C0 hr hlk hW hS dX11_law_91
    · replace h := z_f h hc
      clear hc
      refine lv_aload_n hx hb dX11_law_63 rfl (lv_at hl 0 rfl) ?_
      refine z_getr (o := 1) C0 hW fl_X11_7 rfl rfl rfl dX11_law_64 ?_
      refine lv_sipush (v := (305 : Int32)) hx hb dX11_law_67 (by decide) ?_
      refine lv_iload_n hx hb dX11_law_70 rfl (lv_at hl 2 rfl) ?_
      refine lv_iadd hx hb dX11_law_71 ?_
      refine lv_aload_n hx hb dX11_law_72 rfl (lv_at hl 0 rfl) ?_
      refine z_getr (o := 5) C0 hW fl_X11_22 rfl rfl rfl dX11_law_73 ?_
      refine lv_iload_n hx hb dX11_law_76 rfl (lv_at hl 2 rfl) ?_
      replace h := z_if h
      obtain ⟨hin, h⟩ := h
      refine z_iald (n := 400) C0 hW rfl rfl hin rfl dX11_law_77 ?_
      clear hin
      refine lv_topi (fun z8 e1 => ?_)
      replace h := z_ly h e1
      clear e1
      replace h := z_if h
      obtain ⟨hin, h⟩ := h
      refine z_iast (n := 705) C0 hW hS rfl rfl hin rfl dX11_law_78 (fun H locs u9 e1 hW hS => ?_)
      replace h := z_ly h e1
      clear e1
      refine lv_iinc (v := x2 + (1 : Int32)) (lv' := [(2, .int (x2 + (1 : Int32))), (0, .ref (b + 0)), (1, .int x1)]) hx hb dX11_law_79 hl (k := 2) rfl rfl (by decide) rfl (fun ls hl => ?_)
      refine lv_goto (tgt := 55) hx hb dX11_law_82 (by decide) ?_
      exact ih _ _ _ _ _ _ h hW hS (lv_sub hl [1, 2, 0] rfl)
theorem f_X11_law_e  (u : zU) : f_X11_law u = z_let (f_X11_begins u) (fun u1 => z_b2 (f_X11_read true u1) (fun r2 u3 => if (u3 0 12) = (-1 : Int32) then (z_let (z_up u3 0 0 (0 : Int32)) (fun u4 => if (u4 0 0) ≤ 0 then (z_let (z_up u4 1 1 r2) (fun u5 => z_let (z_up u5 1 2 (u5 0 10)) (fun u6 => f_X11_law_55 5000 r2 (0 : Int32) u6))) else (some ((0 : Int32), u4)))) else (z_let (z_up u3 0 0 (1 : Int32)) (fun u10 => if (u10 0 0) ≤ 0 then (z_let (z_up u10 1 1 r2) (fun u11 => z_let (z_up u11 1 2 (u11 0 10)) (fun u12 => f_X11_law_55 5000 r2 (0 : Int32) u12))) else (some ((0 : Int32), u10)))))) := rfl
set_option maxRecDepth 100000 in
set_option maxHeartbeats 4000000 in
theorem c_X11_law (l : Launch) (D : zD) (A : Nat → Prop) (b : Nat)  (u : zU) {v : Int32} {u' : zU} (h : f_X11_law u = some (v, u')) : z_M l D A b gM yX11_law cX11_law 3 (some .int) 41 1328 [.ref (b + 0)] u (some (.int v)) u' := by
  refine z_enter (by decide) (Nat.le_of_ble_eq_true rfl) ?_
  intro p e s m below meth c ls C0 hr hml hlk hW hS hl
  have hl : lv_has ls 3 [(0, .ref (b + 0))] := hl
  have hx := C0.1
  have hb := C0.2.1
  rw [f_X11_law_e] at h
  refine lv_aload_n hx hb dX11_law_0 rfl (lv_at hl 0 rfl) ?_
  obtain ⟨u1, hq⟩ : ∃ y, f_X11_begins u = y := ⟨_, rfl⟩
  replace h := z_lz h hq
  refine z_cvv (As := []) C0 hml hl.1 hW hS (c_X11_begins l D A b u hq) mv_X11_172 rfl ⟨Nat.le_of_ble_eq_true rfl, Nat.le_of_ble_eq_true rfl⟩ rfl rfl (Nat.le_of_ble_eq_true rfl) dX11_law_1 (fun H locs hW hS => ?_)
  clear hq
  refine lv_aload_n hx hb dX11_law_4 rfl (lv_at hl 0 rfl) ?_
  refine lv_iconst (v := (1 : Int32)) hx hb dX11_law_5 (by decide) ?_
  replace h := z_bd2 h
  obtain ⟨r2, u3, hq, h⟩ := h
  refine z_cvi (As := [.int (bI true)]) C0 hml hl.1 hW hS (c_X11_read l D A b true u1 hq) mv_X11_175 rfl ⟨Nat.le_of_ble_eq_true rfl, Nat.le_of_ble_eq_true rfl⟩ rfl rfl (Nat.le_of_ble_eq_true rfl) dX11_law_6 (fun H locs hW hS => ?_)
  clear hq
  refine lv_istore_n (lv' := [(1, .int r2), (0, .ref (b + 0))]) hx hb dX11_law_9 rfl hl (by decide) rfl (fun ls hl => ?_)
  refine lv_aload_n hx hb dX11_law_10 rfl (lv_at hl 1 rfl) ?_
  refine lv_aload_n hx hb dX11_law_11 rfl (lv_at hl 1 rfl) ?_
  refine z_geti C0 hW fl_X11_25 rfl rfl dX11_law_12 ?_
  refine lv_iconst (v := (-1 : Int32)) hx hb dX11_law_15 (by decide) ?_
  refine lv_icmp_eq (tgt := 23) hx hb dX11_law_16 (by decide) (fun hc => ?_) (fun hc => ?_)
  · replace h := z_t h hc
    clear hc
    refine lv_iconst (v := (0 : Int32)) hx hb dX11_law_23 (by decide) ?_
    refine z_puti C0 hW hS fl_X11_42 rfl rfl rfl rfl dX11_law_24 (fun H locs u4 e1 hW hS => ?_)
    replace h := z_ly h e1
    clear e1
    refine lv_aload_n hx hb dX11_law_27 rfl (lv_at hl 1 rfl) ?_
    refine z_geti C0 hW fl_X11_42 rfl rfl dX11_law_28 ?_
    refine lv_if_le (tgt := 36) hx hb dX11_law_31 (by decide) (fun hc => ?_) (fun hc => ?_)
    · replace h := z_t h hc
      clear hc
      refine lv_aload_n hx hb dX11_law_36 rfl (lv_at hl 1 rfl) ?_
      refine z_getr (o := 1) C0 hW fl_X11_7 rfl rfl rfl dX11_law_37 ?_
      refine lv_iconst (v := (1 : Int32)) hx hb dX11_law_40 (by decide) ?_
      refine lv_iload_n hx hb dX11_law_41 rfl (lv_at hl 0 rfl) ?_
      refine z_iast (k := 1) (n := 705) C0 hW hS rfl rfl (by decide) (by decide) dX11_law_42 (fun H locs u5 e1 hW hS => ?_)
      replace h := z_ly h e1
      clear e1
      refine lv_aload_n hx hb dX11_law_43 rfl (lv_at hl 1 rfl) ?_
      refine z_getr (o := 1) C0 hW fl_X11_7 rfl rfl rfl dX11_law_44 ?_
      refine lv_iconst (v := (2 : Int32)) hx hb dX11_law_47 (by decide) ?_
      refine lv_aload_n hx hb dX11_law_48 rfl (lv_at hl 1 rfl) ?_
      refine z_geti C0 hW fl_X11_82 rfl rfl dX11_law_49 ?_
      refine z_iast (k := 2) (n := 705) C0 hW hS rfl rfl (by decide) (by decide) dX11_law_52 (fun H locs u6 e1 hW hS => ?_)
      replace h := z_ly h e1
      clear e1
      refine lv_iconst (v := (0 : Int32)) hx hb dX11_law_53 (by decide) ?_
      refine lv_istore_n (lv' := [(2, .int (0 : Int32)), (1, .int r2), (0, .ref (b + 0))]) hx hb dX11_law_54 rfl hl (by decide) rfl (fun ls hl => ?_)
      exact l_X11_law_55 C0 hr hml hlk 5000 _ _ _ _ _ _ h hW hS (lv_sub hl [2, 1, 0] rfl)
    · replace h := z_f h hc
      clear hc
      refine lv_iconst (v := (0 : Int32)) hx hb dX11_law_34 (by decide) ?_
      cases h
      exact z_iret C0 hr hlk hW hS dX11_law_35
  · replace h := z_f h hc
    clear hc
    refine lv_iconst (v := (1 : Int32)) hx hb dX11_law_19 (by decide) ?_
    refine lv_goto (tgt := 24) hx hb dX11_law_20 (by decide) ?_
    refine z_puti C0 hW hS fl_X11_42 rfl rfl rfl rfl dX11_law_24 (fun H locs u10 e1 hW hS => ?_)
    replace h := z_ly h e1
    clear e1
    refine lv_aload_n hx hb dX11_law_27 rfl (lv_at hl 1 rfl) ?_
    refine z_geti C0 hW fl_X11_42 rfl rfl dX11_law_28 ?_
    refine lv_if_le (tgt := 36) hx hb dX11_law_31 (by decide) (fun hc => ?_) (fun hc => ?_)
    · replace h := z_t h hc
      clear hc
      refine lv_aload_n hx hb dX11_law_36 rfl (lv_at hl 1 rfl) ?_
      refine z_getr (o := 1) C0 hW fl_X11_7 rfl rfl rfl dX11_law_37 ?_
      refine lv_iconst (v := (1 : Int32)) hx hb dX11_law_40 (by decide) ?_
      refine lv_iload_n hx hb dX11_law_41 rfl (lv_at hl 0 rfl) ?_
      refine z_iast (k := 1) (n := 705) C0 hW hS rfl rfl (by decide) (by decide) dX11_law_42 (fun H locs u11 e1 hW hS => ?_)
      replace h := z_ly h e1
      clear e1
      refine lv_aload_n hx hb dX11_law_43 rfl (lv_at hl 1 rfl) ?_
      refine z_getr (o := 1) C0 hW fl_X11_7 rfl rfl rfl dX11_law_44 ?_
      refine lv_iconst (v := (2 : Int32)) hx hb dX11_law_47 (by decide) ?_
      refine lv_aload_n hx hb dX11_law_48 rfl (lv_at hl 1 rfl) ?_
      refine z_geti C0 hW fl_X11_82 rfl rfl dX11_law_49 ?_
      refine z_iast (k := 2) (n := 705) C0 hW hS rfl rfl (by decide) (by decide) dX11_law_52 (fun H locs u12 e1 hW hS => ?_)
      replace h := z_ly h e1
      clear e1
      refine lv_iconst (v := (0 : Int32)) hx hb dX11_law_53 (by decide) ?_
      refine lv_istore_n (lv' := [(2, .int (0 : Int32)), (1, .int r2), (0, .ref (b + 0))]) hx hb dX11_law_54 rfl hl (by decide) rfl (fun ls hl => ?_)
      exact l_X11_law_55 C0 hr hml hlk 5000 _ _ _ _ _ _ h hW hS (lv_sub hl [2, 1, 0] rfl)
    · replace h := z_f h hc
      clear hc
      refine lv_iconst (v := (0 : Int32)) hx hb dX11_law_34 (by decide) ?_
      cases h
      exact z_iret C0 hr hlk hW hS dX11_law_35
def f_X11_asks (a1 : Int32) (u : zU) : Option (zU) :=
  z_let (z_up u 0 18 (0 : Int32)) (fun u1 => z_let (z_up u1 0 19 (0 : Int32)) (fun u2 => if (1 : Int32) ≤ (u2 1 1) then (if a1 = (-1 : Int32) then (z_let (z_up u2 0 17 (1 : Int32)) (fun u72 => if a1 = (-1 : Int32) then (z_let (u72 0 12) (fun z73 => z_let (z_up u72 0 12 (-1 : Int32)) (fun u74 => z_let (z_up u74 0 9 (305 : Int32)) (fun u75 => z_let (z_up u75 0 10 (u75 1 2)) (fun u76 => z_let (z_up u76 0 11 (0 : Int32)) (fun u77 => z_let (z_up u77 0 13 (0 : Int32)) (fun u78 => z_b2 (f_X11_read true u78) (fun r79 u80 => z_let (z_up u80 0 12 z73) (fun u81 => some u81))))))))) else ((f_X11_of a1 (0 : Int32) u72).bind (fun r82 => z_let (z_up u72 6 0 r82) (fun u83 => (f_X11_of a1 (1 : Int32) u83).bind (fun r84 => z_let (z_up u83 6 1 r84) (fun u85 => (f_X11_of a1 (3 : Int32) u85).bind (fun r86 => z_let (z_up u85 6 2 r86) (fun u87 => if z_in ((17 : Int32) + r82) 705 = true then (z_let (u87 1 ((17 : Int32) + r82).toNatClampNeg) (fun z88 => z_let (z_up u87 6 3 z88) (fun u89 => z_let (z_up u89 6 4 (u89 1 9)) (fun u90 => z_let (f_X11_heightOf r82 u90) (fun r91 => z_let (z_up u90 6 5 r91) (fun u92 => z_let (z_up u92 6 6 ((u92 1 6) / (100 : Int32))) (fun u93 => (f_X11_of a1 (2 : Int32) u93).bind (fun r94 => if r94 < (50 : Int32) then (z_let (z_up u93 0 15 (0 : Int32)) (fun u95 => (f_X11_those r82 u95).bind (fun r96 => (f_X11_bits r96 u95).bind (fun r97 => if r97 = (1 : Int32) then (z_let (z_up u95 0 16 (1 : Int32)) (fun u108 => z_let (u108 0 12) (fun z109 => z_let (z_up u108 0 12 (-1 : Int32)) (fun u110 => z_let (z_up u110 0 9 (305 : Int32)) (fun u111 => z_let (z_up u111 0 10 (u111 1 2)) (fun u112 => z_let (z_up u112 0 11 (0 : Int32)) (fun u113 => z_let (z_up u113 0 13 (0 : Int32)) (fun u114 => z_b2 (f_X11_read true u114) (fun r115 u116 => z_let (z_up u116 0 12 z109) (fun u117 => some u117)))))))))) else (z_let (z_up u95 0 16 (0 : Int32)) (fun u98 => z_let (u98 0 12) (fun z99 => z_let (z_up u98 0 12 (-1 : Int32)) (fun u100 => z_let (z_up u100 0 9 (305 : Int32)) (fun u101 => z_let (z_up u101 0 10 (u101 1 2)) (fun u102 => z_let (z_up u102 0 11 (0 : Int32)) (fun u103 => z_let (z_up u103 0 13 (0 : Int32)) (fun u104 => z_b2 (f_X11_read true u104) (fun r105 u106 => z_let (z_up u106 0 12 z99) (fun u107 => some u107)))))))))))))) else (z_let (z_up u93 0 15 (1 : Int32)) (fun u118 => (f_X11_those r82 u118).bind (fun r119 => (f_X11_bits r119 u118).bind (fun r120 => if r120 = (1 : Int32) then (z_let (z_up u118 0 16 (1 : Int32)) (fun u131 => z_let (u131 0 12) (fun z132 => z_let (z_up u131 0 12 (-1 : Int32)) (fun u133 => z_let (z_up u133 0 9 (305 : Int32)) (fun u134 => z_let (z_up u134 0 10 (u134 1 2)) (fun u135 => z_let (z_up u135 0 11 (0 : Int32)) (fun u136 => z_let (z_up u136 0 13 (0 : Int32)) (fun u137 => z_b2 (f_X11_read true u137) (fun r138 u139 => z_let (z_up u139 0 12 z132) (fun u140 => some u140)))))))))) else (z_let (z_up u118 0 16 (0 : Int32)) (fun u121 => z_let (u121 0 12) (fun z122 => z_let (z_up u121 0 12 (-1 : Int32)) (fun u123 => z_let (z_up u123 0 9 (305 : Int32)) (fun u124 => z_let (z_up u124 0 10 (u124 1 2)) (fun u125 => z_let (z_up u125 0 11 (0 : Int32)) (fun u126 => z_let (z_up u126 0 13 (0 : Int32)) (fun u127 => z_b2 (f_X11_read true u127) (fun r128 u129 => z_let (z_up u129 0 12 z122) (fun u130 => some u130)))))))))))))))))))))) else none))))))))) else (z_let (z_up u2 0 17 (0 : Int32)) (fun u3 => if a1 = (-1 : Int32) then (z_let (u3 0 12) (fun z4 => z_let (z_up u3 0 12 (-1 : Int32)) (fun u5 => z_let (z_up u5 0 9 (305 : Int32)) (fun u6 => z_let (z_up u6 0 10 (u6 1 2)) (fun u7 => z_let (z_up u7 0 11 (0 : Int32)) (fun u8 => z_let (z_up u8 0 13 (0 : Int32)) (fun u9 => z_b2 (f_X11_read true u9) (fun r10 u11 => z_let (z_up u11 0 12 z4) (fun u12 => some u12))))))))) else ((f_X11_of a1 (0 : Int32) u3).bind (fun r13 => z_let (z_up u3 6 0 r13) (fun u14 => (f_X11_of a1 (1 : Int32) u14).bind (fun r15 => z_let (z_up u14 6 1 r15) (fun u16 => (f_X11_of a1 (3 : Int32) u16).bind (fun r17 => z_let (z_up u16 6 2 r17) (fun u18 => if z_in ((17 : Int32) + r13) 705 = true then (z_let (u18 1 ((17 : Int32) + r13).toNatClampNeg) (fun z19 => z_let (z_up u18 6 3 z19) (fun u20 => z_let (z_up u20 6 4 (u20 1 9)) (fun u21 => z_let (f_X11_heightOf r13 u21) (fun r22 => z_let (z_up u21 6 5 r22) (fun u23 => z_let (z_up u23 6 6 ((u23 1 6) / (100 : Int32))) (fun u24 => (f_X11_of a1 (2 : Int32) u24).bind (fun r25 => if r25 < (50 : Int32) then (z_let (z_up u24 0 15 (0 : Int32)) (fun u26 => (f_X11_those r13 u26).bind (fun r27 => (f_X11_bits r27 u26).bind (fun r28 => if r28 = (1 : Int32) then (z_let (z_up u26 0 16 (1 : Int32)) (fun u39 => z_let (u39 0 12) (fun z40 => z_let (z_up u39 0 12 (-1 : Int32)) (fun u41 => z_let (z_up u41 0 9 (305 : Int32)) (fun u42 => z_let (z_up u42 0 10 (u42 1 2)) (fun u43 => z_let (z_up u43 0 11 (0 : Int32)) (fun u44 => z_let (z_up u44 0 13 (0 : Int32)) (fun u45 => z_b2 (f_X11_read true u45) (fun r46 u47 => z_let (z_up u47 0 12 z40) (fun u48 => some u48)))))))))) else (z_let (z_up u26 0 16 (0 : Int32)) (fun u29 => z_let (u29 0 12) (fun z30 => z_let (z_up u29 0 12 (-1 : Int32)) (fun u31 => z_let (z_up u31 0 9 (305 : Int32)) (fun u32 => z_let (z_up u32 0 10 (u32 1 2)) (fun u33 => z_let (z_up u33 0 11 (0 : Int32)) (fun u34 => z_let (z_up u34 0 13 (0 : Int32)) (fun u35 => z_b2 (f_X11_read true u35) (fun r36 u37 => z_let (z_up u37 0 12 z30) (fun u38 => some u38)))))))))))))) else (z_let (z_up u24 0 15 (1 : Int32)) (fun u49 => (f_X11_those r13 u49).bind (fun r50 => (f_X11_bits r50 u49).bind (fun r51 => if r51 = (1 : Int32) then (z_let (z_up u49 0 16 (1 : Int32)) (fun u62 => z_let (u62 0 12) (fun z63 => z_let (z_up u62 0 12 (-1 : Int32)) (fun u64 => z_let (z_up u64 0 9 (305 : Int32)) (fun u65 => z_let (z_up u65 0 10 (u65 1 2)) (fun u66 => z_let (z_up u66 0 11 (0 : Int32)) (fun u67 => z_let (z_up u67 0 13 (0 : Int32)) (fun u68 => z_b2 (f_X11_read true u68) (fun r69 u70 => z_let (z_up u70 0 12 z63) (fun u71 => some u71)))))))))) else (z_let (z_up u49 0 16 (0 : Int32)) (fun u52 => z_let (u52 0 12) (fun z53 => z_let (z_up u52 0 12 (-1 : Int32)) (fun u54 => z_let (z_up u54 0 9 (305 : Int32)) (fun u55 => z_let (z_up u55 0 10 (u55 1 2)) (fun u56 => z_let (z_up u56 0 11 (0 : Int32)) (fun u57 => z_let (z_up u57 0 13 (0 : Int32)) (fun u58 => z_b2 (f_X11_read true u58) (fun r59 u60 => z_let (z_up u60 0 12 z53) (fun u61 => some u61)))))))))))))))))))))) else none)))))))))) else (some u2)))
theorem f_X11_asks_e (a1 : Int32) (u : zU) : f_X11_asks a1 u = z_let (z_up u 0 18 (0 : Int32)) (fun u1 => z_let (z_up u1 0 19 (0 : Int32)) (fun u2 => if (1 : Int32) ≤ (u2 1 1) then (if a1 = (-1 : Int32) then (z_let (z_up u2 0 17 (1 : Int32)) (fun u72 => if a1 = (-1 : Int32) then (z_let (u72 0 12) (fun z73 => z_let (z_up u72 0 12 (-1 : Int32)) (fun u74 => z_let (z_up u74 0 9 (305 : Int32)) (fun u75 => z_let (z_up u75 0 10 (u75 1 2)) (fun u76 => z_let (z_up u76 0 11 (0 : Int32)) (fun u77 => z_let (z_up u77 0 13 (0 : Int32)) (fun u78 => z_b2 (f_X11_read true u78) (fun r79 u80 => z_let (z_up u80 0 12 z73) (fun u81 => some u81))))))))) else ((f_X11_of a1 (0 : Int32) u72).bind (fun r82 => z_let (z_up u72 6 0 r82) (fun u83 => (f_X11_of a1 (1 : Int32) u83).bind (fun r84 => z_let (z_up u83 6 1 r84) (fun u85 => (f_X11_of a1 (3 : Int32) u85).bind (fun r86 => z_let (z_up u85 6 2 r86) (fun u87 => if z_in ((17 : Int32) + r82) 705 = true then (z_let (u87 1 ((17 : Int32) + r82).toNatClampNeg) (fun z88 => z_let (z_up u87 6 3 z88) (fun u89 => z_let (z_up u89 6 4 (u89 1 9)) (fun u90 => z_let (f_X11_heightOf r82 u90) (fun r91 => z_let (z_up u90 6 5 r91) (fun u92 => z_let (z_up u92 6 6 ((u92 1 6) / (100 : Int32))) (fun u93 => (f_X11_of a1 (2 : Int32) u93).bind (fun r94 => if r94 < (50 : Int32) then (z_let (z_up u93 0 15 (0 : Int32)) (fun u95 => (f_X11_those r82 u95).bind (fun r96 => (f_X11_bits r96 u95).bind (fun r97 => if r97 = (1 : Int32) then (z_let (z_up u95 0 16 (1 : Int32)) (fun u108 => z_let (u108 0 12) (fun z109 => z_let (z_up u108 0 12 (-1 : Int32)) (fun u110 => z_let (z_up u110 0 9 (305 : Int32)) (fun u111 => z_let (z_up u111 0 10 (u111 1 2)) (fun u112 => z_let (z_up u112 0 11 (0 : Int32)) (fun u113 => z_let (z_up u113 0 13 (0 : Int32)) (fun u114 => z_b2 (f_X11_read true u114) (fun r115 u116 => z_let (z_up u116 0 12 z109) (fun u117 => some u117)))))))))) else (z_let (z_up u95 0 16 (0 : Int32)) (fun u98 => z_let (u98 0 12) (fun z99 => z_let (z_up u98 0 12 (-1 : Int32)) (fun u100 => z_let (z_up u100 0 9 (305 : Int32)) (fun u101 => z_let (z_up u101 0 10 (u101 1 2)) (fun u102 => z_let (z_up u102 0 11 (0 : Int32)) (fun u103 => z_let (z_up u103 0 13 (0 : Int32)) (fun u104 => z_b2 (f_X11_read true u104) (fun r105 u106 => z_let (z_up u106 0 12 z99) (fun u107 => some u107)))))))))))))) else (z_let (z_up u93 0 15 (1 : Int32)) (fun u118 => (f_X11_those r82 u118).bind (fun r119 => (f_X11_bits r119 u118).bind (fun r120 => if r120 = (1 : Int32) then (z_let (z_up u118 0 16 (1 : Int32)) (fun u131 => z_let (u131 0 12) (fun z132 => z_let (z_up u131 0 12 (-1 : Int32)) (fun u133 => z_let (z_up u133 0 9 (305 : Int32)) (fun u134 => z_let (z_up u134 0 10 (u134 1 2)) (fun u135 => z_let (z_up u135 0 11 (0 : Int32)) (fun u136 => z_let (z_up u136 0 13 (0 : Int32)) (fun u137 => z_b2 (f_X11_read true u137) (fun r138 u139 => z_let (z_up u139 0 12 z132) (fun u140 => some u140)))))))))) else (z_let (z_up u118 0 16 (0 : Int32)) (fun u121 => z_let (u121 0 12) (fun z122 => z_let (z_up u121 0 12 (-1 : Int32)) (fun u123 => z_let (z_up u123 0 9 (305 : Int32)) (fun u124 => z_let (z_up u124 0 10 (u124 1 2)) (fun u125 => z_let (z_up u125 0 11 (0 : Int32)) (fun u126 => z_let (z_up u126 0 13 (0 : Int32)) (fun u127 => z_b2 (f_X11_read true u127) (fun r128 u129 => z_let (z_up u129 0 12 z122) (fun u130 => some u130)))))))))))))))))))))) else none))))))))) else (z_let (z_up u2 0 17 (0 : Int32)) (fun u3 => if a1 = (-1 : Int32) then (z_let (u3 0 12) (fun z4 => z_let (z_up u3 0 12 (-1 : Int32)) (fun u5 => z_let (z_up u5 0 9 (305 : Int32)) (fun u6 => z_let (z_up u6 0 10 (u6 1 2)) (fun u7 => z_let (z_up u7 0 11 (0 : Int32)) (fun u8 => z_let (z_up u8 0 13 (0 : Int32)) (fun u9 => z_b2 (f_X11_read true u9) (fun r10 u11 => z_let (z_up u11 0 12 z4) (fun u12 => some u12))))))))) else ((f_X11_of a1 (0 : Int32) u3).bind (fun r13 => z_let (z_up u3 6 0 r13) (fun u14 => (f_X11_of a1 (1 : Int32) u14).bind (fun r15 => z_let (z_up u14 6 1 r15) (fun u16 => (f_X11_of a1 (3 : Int32) u16).bind (fun r17 => z_let (z_up u16 6 2 r17) (fun u18 => if z_in ((17 : Int32) + r13) 705 = true then (z_let (u18 1 ((17 : Int32) + r13).toNatClampNeg) (fun z19 => z_let (z_up u18 6 3 z19) (fun u20 => z_let (z_up u20 6 4 (u20 1 9)) (fun u21 => z_let (f_X11_heightOf r13 u21) (fun r22 => z_let (z_up u21 6 5 r22) (fun u23 => z_let (z_up u23 6 6 ((u23 1 6) / (100 : Int32))) (fun u24 => (f_X11_of a1 (2 : Int32) u24).bind (fun r25 => if r25 < (50 : Int32) then (z_let (z_up u24 0 15 (0 : Int32)) (fun u26 => (f_X11_those r13 u26).bind (fun r27 => (f_X11_bits r27 u26).bind (fun r28 => if r28 = (1 : Int32) then (z_let (z_up u26 0 16 (1 : Int32)) (fun u39 => z_let (u39 0 12) (fun z40 => z_let (z_up u39 0 12 (-1 : Int32)) (fun u41 => z_let (z_up u41 0 9 (305 : Int32)) (fun u42 => z_let (z_up u42 0 10 (u42 1 2)) (fun u43 => z_let (z_up u43 0 11 (0 : Int32)) (fun u44 => z_let (z_up u44 0 13 (0 : Int32)) (fun u45 => z_b2 (f_X11_read true u45) (fun r46 u47 => z_let (z_up u47 0 12 z40) (fun u48 => some u48)))))))))) else (z_let (z_up u26 0 16 (0 : Int32)) (fun u29 => z_let (u29 0 12) (fun z30 => z_let (z_up u29 0 12 (-1 : Int32)) (fun u31 => z_let (z_up u31 0 9 (305 : Int32)) (fun u32 => z_let (z_up u32 0 10 (u32 1 2)) (fun u33 => z_let (z_up u33 0 11 (0 : Int32)) (fun u34 => z_let (z_up u34 0 13 (0 : Int32)) (fun u35 => z_b2 (f_X11_read true u35) (fun r36 u37 => z_let (z_up u37 0 12 z30) (fun u38 => some u38)))))))))))))) else (z_let (z_up u24 0 15 (1 : Int32)) (fun u49 => (f_X11_those r13 u49).bind (fun r50 => (f_X11_bits r50 u49).bind (fun r51 => if r51 = (1 : Int32) then (z_let (z_up u49 0 16 (1 : Int32)) (fun u62 => z_let (u62 0 12) (fun z63 => z_let (z_up u62 0 12 (-1 : Int32)) (fun u64 => z_let (z_up u64 0 9 (305 : Int32)) (fun u65 => z_let (z_up u65 0 10 (u65 1 2)) (fun u66 => z_let (z_up u66 0 11 (0 : Int32)) (fun u67 => z_let (z_up u67 0 13 (0 : Int32)) (fun u68 => z_b2 (f_X11_read true u68) (fun r69 u70 => z_let (z_up u70 0 12 z63) (fun u71 => some u71)))))))))) else (z_let (z_up u49 0 16 (0 : Int32)) (fun u52 => z_let (u52 0 12) (fun z53 => z_let (z_up u52 0 12 (-1 : Int32)) (fun u54 => z_let (z_up u54 0 9 (305 : Int32)) (fun u55 => z_let (z_up u55 0 10 (u55 1 2)) (fun u56 => z_let (z_up u56 0 11 (0 : Int32)) (fun u57 => z_let (z_up u57 0 13 (0 : Int32)) (fun u58 => z_b2 (f_X11_read true u58) (fun r59 u60 => z_let (z_up u60 0 12 z53) (fun u61 => some u61)))))))))))))))))))))) else none)))))))))) else (some u2))) := rfl
set_option maxRecDepth 100000 in
set_option maxHeartbeats 4000000 in
theorem c_X11_asks (l : Launch) (D : zD) (A : Nat → Prop) (b : Nat) (a1 : Int32) (u : zU) {u' : zU} (h : f_X11_asks a1 u = some u') : z_M l D A b gM yX11_asks cX11_asks 4 none 41 1328 [.ref (b + 0), .int a1] u none u' := by
  refine z_enter (by decide) (Nat.le_of_ble_eq_true rfl) ?_
  intro p e s m below meth c ls C0 hr hml hlk hW hS hl
  have hl : lv_has ls 4 [(0, .ref (b + 0)), (1, .int a1)] := hl
  have hx := C0.1
  have hb := C0.2.1
  rw [f_X11_asks_e] at h
  refine lv_aload_n hx hb dX11_asks_0 rfl (lv_at hl 0 rfl) ?_
  refine lv_iconst (v := (0 : Int32)) hx hb dX11_asks_1 (by decide) ?_
  refine z_puti C0 hW hS fl_X11_238 rfl rfl rfl rfl dX11_asks_2 (fun H locs u1 e1 hW hS => ?_)
  replace h := z_ly h e1
  clear e1
  refine lv_aload_n hx hb dX11_asks_5 rfl (lv_at hl 0 rfl) ?_
  refine lv_iconst (v := (0 : Int32)) hx hb dX11_asks_6 (by decide) ?_
  refine z_puti C0 hW hS fl_X11_241 rfl rfl rfl rfl dX11_asks_7 (fun H locs u2 e1 hW hS => ?_)
  replace h := z_ly h e1
  clear e1
  refine lv_aload_n hx hb dX11_asks_10 rfl (lv_at hl 0 rfl) ?_
  refine z_getr (o := 1) C0 hW fl_X11_7 rfl rfl rfl dX11_asks_11 ?_
  refine lv_iconst (v := (1 : Int32)) hx hb dX11_asks_14 (by decide) ?_
  refine z_iald (k := 1) (n := 705) C0 hW rfl rfl (by decide) (by decide) dX11_asks_15 ?_
  refine lv_iconst (v := (1 : Int32)) hx hb dX11_asks_16 (by decide) ?_
  refine lv_icmp_ge (tgt := 21) hx hb dX11_asks_17 (by decide) (fun hc => ?_) (fun hc => ?_)
  · replace h := z_t h hc
    clear hc
    refine lv_aload_n hx hb dX11_asks_21 rfl (lv_at hl 0 rfl) ?_
    refine lv_iload_n hx hb dX11_asks_22 rfl (lv_at hl 1 rfl) ?_
    refine lv_iconst (v := (-1 : Int32)) hx hb dX11_asks_23 (by decide) ?_
    refine lv_icmp_ne (tgt := 31) hx hb dX11_asks_24 (by decide) (fun hc => ?_) (fun hc => ?_)
    · replace h := z_f h hc
      clear hc
      refine lv_iconst (v := (0 : Int32)) hx hb dX11_asks_31 (by decide) ?_
      refine z_puti C0 hW hS fl_X11_235 rfl rfl rfl rfl dX11_asks_32 (fun H locs u3 e1 hW hS => ?_)
      replace h := z_ly h e1
      clear e1
      refine lv_iload_n hx hb dX11_asks_35 rfl (lv_at hl 1 rfl) ?_
      refine lv_iconst (v := (-1 : Int32)) hx hb dX11_asks_36 (by decide) ?_
      refine lv_icmp_eq (tgt := 175) hx hb dX11_asks_37 (by decide) (fun hc => ?_) (fun hc => ?_)
      · replace h := z_t h hc
        clear hc
        refine lv_aload_n hx hb dX11_asks_175 rfl (lv_at hl 0 rfl) ?_
        refine z_geti C0 hW fl_X11_25 rfl rfl dX11_asks_176 ?_
        refine lv_topi (fun z4 e1 => ?_)
        replace h := z_ly h e1
        clear e1
        refine lv_istore_n (lv' := [(2, .int z4), (0, .ref (b + 0)), (1, .int a1)]) hx hb dX11_asks_179 rfl hl (by decide) rfl (fun ls hl => ?_)
        refine lv_aload_n hx hb dX11_asks_180 rfl (lv_at hl 1 rfl) ?_
        refine lv_iconst (v := (-1 : Int32)) hx hb dX11_asks_181 (by decide) ?_
        refine z_puti C0 hW hS fl_X11_25 rfl rfl rfl rfl dX11_asks_182 (fun H locs u5 e1 hW hS => ?_)
        replace h := z_ly h e1
        clear e1
        refine lv_aload_n hx hb dX11_asks_185 rfl (lv_at hl 1 rfl) ?_
        refine lv_sipush (v := (305 : Int32)) hx hb dX11_asks_186 (by decide) ?_
        refine z_puti C0 hW hS fl_X11_76 rfl rfl rfl rfl dX11_asks_189 (fun H locs u6 e1 hW hS => ?_)
        replace h := z_ly h e1
        clear e1
        refine lv_aload_n hx hb dX11_asks_192 rfl (lv_at hl 1 rfl) ?_
        refine lv_aload_n hx hb dX11_asks_193 rfl (lv_at hl 1 rfl) ?_
        refine z_getr (o := 1) C0 hW fl_X11_7 rfl rfl rfl dX11_asks_194 ?_
        refine lv_iconst (v := (2 : Int32)) hx hb dX11_asks_197 (by decide) ?_
        refine z_iald (k := 2) (n := 705) C0 hW rfl rfl (by decide) (by decide) dX11_asks_198 ?_
        refine z_puti C0 hW hS fl_X11_82 rfl rfl rfl rfl dX11_asks_199 (fun H locs u7 e1 hW hS => ?_)
        replace h := z_ly h e1
        clear e1
        refine lv_aload_n hx hb dX11_asks_202 rfl (lv_at hl 1 rfl) ?_
        refine lv_iconst (v := (0 : Int32)) hx hb dX11_asks_203 (by decide) ?_
        refine z_puti C0 hW hS fl_X11_79 rfl rfl rfl rfl dX11_asks_204 (fun H locs u8 e1 hW hS => ?_)
        replace h := z_ly h e1
        clear e1
        refine lv_aload_n hx hb dX11_asks_207 rfl (lv_at hl 1 rfl) ?_
        refine lv_iconst (v := (0 : Int32)) hx hb dX11_asks_208 (by decide) ?_
        refine z_puti C0 hW hS fl_X11_157 rfl rfl rfl rfl dX11_asks_209 (fun H locs u9 e1 hW hS => ?_)
        replace h := z_ly h e1
        clear e1
        refine lv_aload_n hx hb dX11_asks_212 rfl (lv_at hl 1 rfl) ?_
        refine lv_iconst (v := (1 : Int32)) hx hb dX11_asks_213 (by decide) ?_
        replace h := z_bd2 h
        obtain ⟨r10, u11, hq, h⟩ := h
        refine z_cvi (As := [.int (bI true)]) C0 hml hl.1 hW hS (c_X11_read l D A b true u9 hq) mv_X11_175 rfl ⟨Nat.le_of_ble_eq_true rfl, Nat.le_of_ble_eq_true rfl⟩ rfl rfl (Nat.le_of_ble_eq_true rfl) dX11_asks_214 (fun H locs hW hS => ?_)
        clear hq
        refine lv_istore_n (lv' := [(3, .int r10), (2, .int z4), (0, .ref (b + 0)), (1, .int a1)]) hx hb dX11_asks_217 rfl hl (by decide) rfl (fun ls hl => ?_)
        refine lv_aload_n hx hb dX11_asks_218 rfl (lv_at hl 2 rfl) ?_
        refine lv_iload_n hx hb dX11_asks_219 rfl (lv_at hl 1 rfl) ?_
        refine z_puti C0 hW hS fl_X11_25 rfl rfl rfl rfl dX11_asks_220 (fun H locs u12 e1 hW hS => ?_)
        replace h := z_ly h e1
        clear e1
        cases h
        exact z_vret C0 hr hlk hW hS dX11_asks_223
      · replace h := z_f h hc
        clear hc
        refine lv_aload_n hx hb dX11_asks_40 rfl (lv_at hl 0 rfl) ?_
        refine lv_iload_n hx hb dX11_asks_41 rfl (lv_at hl 1 rfl) ?_
        refine lv_iconst (v := (0 : Int32)) hx hb dX11_asks_42 (by decide) ?_
        replace h := z_bd h
        obtain ⟨r13, hq, h⟩ := h
        refine z_cvi (As := [.int a1, .int (0 : Int32)]) C0 hml hl.1 hW hS (c_X11_of l D A b a1 (0 : Int32) u3 hq) mv_X11_49 rfl ⟨Nat.le_of_ble_eq_true rfl, Nat.le_of_ble_eq_true rfl⟩ rfl rfl (Nat.le_of_ble_eq_true rfl) dX11_asks_43 (fun H locs hW hS => ?_)
        clear hq
        refine lv_istore_n (lv' := [(2, .int r13), (0, .ref (b + 0)), (1, .int a1)]) hx hb dX11_asks_46 rfl hl (by decide) rfl (fun ls hl => ?_)
        refine lv_aload_n hx hb dX11_asks_47 rfl (lv_at hl 1 rfl) ?_
        refine z_getr (o := 6) C0 hW fl_X11_29 rfl rfl rfl dX11_asks_48 ?_
        refine lv_iconst (v := (0 : Int32)) hx hb dX11_asks_51 (by decide) ?_
        refine lv_iload_n hx hb dX11_asks_52 rfl (lv_at hl 0 rfl) ?_
        refine z_iast (k := 0) (n := 7) C0 hW hS rfl rfl (by decide) (by decide) dX11_asks_53 (fun H locs u14 e1 hW hS => ?_)
        replace h := z_ly h e1
        clear e1
        refine lv_aload_n hx hb dX11_asks_54 rfl (lv_at hl 1 rfl) ?_
        refine z_getr (o := 6) C0 hW fl_X11_29 rfl rfl rfl dX11_asks_55 ?_
        refine lv_iconst (v := (1 : Int32)) hx hb dX11_asks_58 (by decide) ?_
        refine lv_aload_n hx hb dX11_asks_59 rfl (lv_at hl 1 rfl) ?_
        refine lv_iload_n hx hb dX11_asks_60 rfl (lv_at hl 2 rfl) ?_
        refine lv_iconst (v := (1 : Int32)) hx hb dX11_asks_61 (by decide) ?_
        replace h := z_bd h
        obtain ⟨r15, hq, h⟩ := h
        refine z_cvi (As := [.int a1, .int (1 : Int32)]) C0 hml hl.1 hW hS (c_X11_of l D A b a1 (1 : Int32) u14 hq) mv_X11_49 rfl ⟨Nat.le_of_ble_eq_true rfl, Nat.le_of_ble_eq_true rfl⟩ rfl rfl (Nat.le_of_ble_eq_true rfl) dX11_asks_62 (fun H locs hW hS => ?_)
        clear hq
        refine z_iast (k := 1) (n := 7) C0 hW hS rfl rfl (by decide) (by decide) dX11_asks_65 (fun H locs u16 e1 hW hS => ?_)
        replace h := z_ly h e1
        clear e1
        refine lv_aload_n hx hb dX11_asks_66 rfl (lv_at hl 1 rfl) ?_
        refine z_getr (o := 6) C0 hW fl_X11_29 rfl rfl rfl dX11_asks_67 ?_
        refine lv_iconst (v := (2 : Int32)) hx hb dX11_asks_70 (by decide) ?_
        refine lv_aload_n hx hb dX11_asks_71 rfl (lv_at hl 1 rfl) ?_
        refine lv_iload_n hx hb dX11_asks_72 rfl (lv_at hl 2 rfl) ?_
        refine lv_iconst (v := (3 : Int32)) hx hb dX11_asks_73 (by decide) ?_
        replace h := z_bd h
        obtain ⟨r17, hq, h⟩ := h
        refine z_cvi (As := [.int a1, .int (3 : Int32)]) C0 hml hl.1 hW hS (c_X11_of l D A b a1 (3 : Int32) u16 hq) mv_X11_49 rfl ⟨Nat.le_of_ble_eq_true rfl, Nat.le_of_ble_eq_true rfl⟩ rfl rfl (Nat.le_of_ble_eq_true rfl) dX11_asks_74 (fun H locs hW hS => ?_)
        clear hq
        refine z_iast (k := 2) (n := 7) C0 hW hS rfl rfl (by decide) (by decide) dX11_asks_77 (fun H locs u18 e1 hW hS => ?_)
        replace h := z_ly h e1
        clear e1
        refine lv_aload_n hx hb dX11_asks_78 rfl (lv_at hl 1 rfl) ?_
        refine z_getr (o := 6) C0 hW fl_X11_29 rfl rfl rfl dX11_asks_79 ?_
        refine lv_iconst (v := (3 : Int32)) hx hb dX11_asks_82 (by decide) ?_
        refine lv_aload_n hx hb dX11_asks_83 rfl (lv_at hl 1 rfl) ?_
        refine z_getr (o := 1) C0 hW fl_X11_7 rfl rfl rfl dX11_asks_84 ?_
        refine lv_bipush (v := (17 : Int32)) hx hb dX11_asks_87 (by decide) ?_
        refine lv_iload_n hx hb dX11_asks_89 rfl (lv_at hl 0 rfl) ?_
        refine lv_iadd hx hb dX11_asks_90 ?_
        replace h := z_if h
        obtain ⟨hin, h⟩ := h
        refine z_iald (n := 705) C0 hW rfl rfl hin rfl dX11_asks_91 ?_
        clear hin
        refine lv_topi (fun z19 e1 => ?_)
        replace h := z_ly h e1
        clear e1
        refine z_iast (k := 3) (n := 7) C0 hW hS rfl rfl (by decide) (by decide) dX11_asks_92 (fun H locs u20 e1 hW hS => ?_)
        replace h := z_ly h e1
        clear e1
        refine lv_aload_n hx hb dX11_asks_93 rfl (lv_at hl 1 rfl) ?_
        refine z_getr (o := 6) C0 hW fl_X11_29 rfl rfl rfl dX11_asks_94 ?_
        refine lv_iconst (v := (4 : Int32)) hx hb dX11_asks_97 (by decide) ?_
        refine lv_aload_n hx hb dX11_asks_98 rfl (lv_at hl 1 rfl) ?_
        refine z_getr (o := 1) C0 hW fl_X11_7 rfl rfl rfl dX11_asks_99 ?_
        refine lv_bipush (v := (9 : Int32)) hx hb dX11_asks_102 (by decide) ?_
        refine z_iald (k := 9) (n := 705) C0 hW rfl rfl (by decide) (by decide) dX11_asks_104 ?_
        refine z_iast (k := 4) (n := 7) C0 hW hS rfl rfl (by decide) (by decide) dX11_asks_105 (fun H locs u21 e1 hW hS => ?_)
        replace h := z_ly h e1
        clear e1
        refine lv_aload_n hx hb dX11_asks_106 rfl (lv_at hl 1 rfl) ?_
        refine z_getr (o := 6) C0 hW fl_X11_29 rfl rfl rfl dX11_asks_107 ?_
        refine lv_iconst (v := (5 : Int32)) hx hb dX11_asks_110 (by decide) ?_
        refine lv_aload_n hx hb dX11_asks_111 rfl (lv_at hl 1 rfl) ?_
        refine lv_iload_n hx hb dX11_asks_112 rfl (lv_at hl 0 rfl) ?_
        obtain ⟨r22, hq⟩ : ∃ y, f_X11_heightOf r13 u21 = y := ⟨_, rfl⟩
        replace h := z_lz h hq
        refine z_cvi (As := [.int r13]) C0 hml hl.1 hW hS (c_X11_heightOf l D A b r13 u21 hq) mv_X11_243 rfl ⟨Nat.le_of_ble_eq_true rfl, Nat.le_of_ble_eq_true rfl⟩ rfl rfl (Nat.le_of_ble_eq_true rfl) dX11_asks_113 (fun H locs hW hS => ?_)
        clear hq
        refine z_iast (k := 5) (n := 7) C0 hW hS rfl rfl (by decide) (by decide) dX11_asks_116 (fun H locs u23 e1 hW hS => ?_)
        replace h := z_ly h e1
        clear e1
        refine lv_aload_n hx hb dX11_asks_117 rfl (lv_at hl 1 rfl) ?_
        refine z_getr (o := 6) C0 hW fl_X11_29 rfl rfl rfl dX11_asks_118 ?_
        refine lv_bipush (v := (6 : Int32)) hx hb dX11_asks_121 (by decide) ?_
        refine lv_aload_n hx hb dX11_asks_123 rfl (lv_at hl 1 rfl) ?_
        refine z_getr (o := 1) C0 hW fl_X11_7 rfl rfl rfl dX11_asks_124 ?_
        refine lv_bipush (v := (6 : Int32)) hx hb dX11_asks_127 (by decide) ?_
        refine z_iald (k := 6) (n := 705) C0 hW rfl rfl (by decide) (by decide) dX11_asks_129 ?_
        refine lv_bipush (v := (100 : Int32)) hx hb dX11_asks_130 (by decide) ?_
        refine lv_idiv hx hb dX11_asks_132 (by decide) ?_
        refine z_iast (k := 6) (n := 7) C0 hW hS rfl rfl (by decide) (by decide) dX11_asks_133 (fun H locs u24 e1 hW hS => ?_)
        replace h := z_ly h e1
        clear e1
        refine lv_aload_n hx hb dX11_asks_134 rfl (lv_at hl 1 rfl) ?_
        refine lv_aload_n hx hb dX11_asks_135 rfl (lv_at hl 1 rfl) ?_
        refine lv_iload_n hx hb dX11_asks_136 rfl (lv_at hl 2 rfl) ?_
        refine lv_iconst (v := (2 : Int32)) hx hb dX11_asks_137 (by decide) ?_
        replace h := z_bd h
        obtain ⟨r25, hq, h⟩ := h
        refine z_cvi (As := [.int a1, .int (2 : Int32)]) C0 hml hl.1 hW hS (c_X11_of l D A b a1 (2 : Int32) u24 hq) mv_X11_49 rfl ⟨Nat.le_of_ble_eq_true rfl, Nat.le_of_ble_eq_true rfl⟩ rfl rfl (Nat.le_of_ble_eq_true rfl) dX11_asks_138 (fun H locs hW hS => ?_)
        clear hq
        refine lv_bipush (v := (50 : Int32)) hx hb dX11_asks_141 (by decide) ?_
        refine lv_icmp_lt (tgt := 150) hx hb dX11_asks_143 (by decide) (fun hc => ?_) (fun hc => ?_)
        · replace h := z_t h hc
          clear hc
          refine lv_iconst (v := (0 : Int32)) hx hb dX11_asks_150 (by decide) ?_
          refine z_puti C0 hW hS fl_X11_196 rfl rfl rfl rfl dX11_asks_151 (fun H locs u26 e1 hW hS => ?_)
          replace h := z_ly h e1
          clear e1
          refine lv_aload_n hx hb dX11_asks_154 rfl (lv_at hl 1 rfl) ?_
          refine lv_aload_n hx hb dX11_asks_155 rfl (lv_at hl 1 rfl) ?_
          refine lv_iload_n hx hb dX11_asks_156 rfl (lv_at hl 0 rfl) ?_
          replace h := z_bd h
          obtain ⟨r27, hq, h⟩ := h
          refine z_cvi (As := [.int r13]) C0 hml hl.1 hW hS (c_X11_those l D A b r13 u26 hq) mv_X11_53 rfl ⟨Nat.le_of_ble_eq_true rfl, Nat.le_of_ble_eq_true rfl⟩ rfl rfl (Nat.le_of_ble_eq_true rfl) dX11_asks_157 (fun H locs hW hS => ?_)
          clear hq
          replace h := z_bd h
          obtain ⟨r28, hq, h⟩ := h
          refine z_csi (As := [.int r27]) C0 hml hl.1 hW hS (c_X11_bits l D A b r27 u26 hq) ms_X11_57 ⟨Nat.le_of_ble_eq_true rfl, Nat.le_of_ble_eq_true rfl⟩ rfl rfl (Nat.le_of_ble_eq_true rfl) dX11_asks_160 (fun H locs hW hS => ?_)
          clear hq
          refine lv_iconst (v := (1 : Int32)) hx hb dX11_asks_163 (by decide) ?_
          refine lv_icmp_ne (tgt := 171) hx hb dX11_asks_164 (by decide) (fun hc => ?_) (fun hc => ?_)
          · replace h := z_f h hc
            clear hc
            refine lv_iconst (v := (0 : Int32)) hx hb dX11_asks_171 (by decide) ?_
            refine z_puti C0 hW hS fl_X11_202 rfl rfl rfl rfl dX11_asks_172 (fun H locs u29 e1 hW hS => ?_)
            replace h := z_ly h e1
            clear e1
            refine lv_aload_n hx hb dX11_asks_175 rfl (lv_at hl 1 rfl) ?_
            refine z_geti C0 hW fl_X11_25 rfl rfl dX11_asks_176 ?_
            refine lv_topi (fun z30 e1 => ?_)
            replace h := z_ly h e1
            clear e1
            refine lv_istore_n (lv' := [(2, .int z30), (0, .ref (b + 0)), (1, .int a1)]) hx hb dX11_asks_179 rfl hl (by decide) rfl (fun ls hl => ?_)
            refine lv_aload_n hx hb dX11_asks_180 rfl (lv_at hl 1 rfl) ?_
            refine lv_iconst (v := (-1 : Int32)) hx hb dX11_asks_181 (by decide) ?_
            refine z_puti C0 hW hS fl_X11_25 rfl rfl rfl rfl dX11_asks_182 (fun H locs u31 e1 hW hS => ?_)
            replace h := z_ly h e1
            clear e1
            refine lv_aload_n hx hb dX11_asks_185 rfl (lv_at hl 1 rfl) ?_
            refine lv_sipush (v := (305 : Int32)) hx hb dX11_asks_186 (by decide) ?_
            refine z_puti C0 hW hS fl_X11_76 rfl rfl rfl rfl dX11_asks_189 (fun H locs u32 e1 hW hS => ?_)
            replace h := z_ly h e1
            clear e1
            refine lv_aload_n hx hb dX11_asks_192 rfl (lv_at hl 1 rfl) ?_
            refine lv_aload_n hx hb dX11_asks_193 rfl (lv_at hl 1 rfl) ?_
            refine z_getr (o := 1) C0 hW fl_X11_7 rfl rfl rfl dX11_asks_194 ?_
            refine lv_iconst (v := (2 : Int32)) hx hb dX11_asks_197 (by decide) ?_
            refine z_iald (k := 2) (n := 705) C0 hW rfl rfl (by decide) (by decide) dX11_asks_198 ?_
            refine z_puti C0 hW hS fl_X11_82 rfl rfl rfl rfl dX11_asks_199 (fun H locs u33 e1 hW hS => ?_)
            replace h := z_ly h e1
            clear e1
            refine lv_aload_n hx hb dX11_asks_202 rfl (lv_at hl 1 rfl) ?_
            refine lv_iconst (v := (0 : Int32)) hx hb dX11_asks_203 (by decide) ?_
            refine z_puti C0 hW hS fl_X11_79 rfl rfl rfl rfl dX11_asks_204 (fun H locs u34 e1 hW hS => ?_)
            replace h := z_ly h e1
            clear e1
            refine lv_aload_n hx hb dX11_asks_207 rfl (lv_at hl 1 rfl) ?_
            refine lv_iconst (v := (0 : Int32)) hx hb dX11_asks_208 (by decide) ?_
            refine z_puti C0 hW hS fl_X11_157 rfl rfl rfl rfl dX11_asks_209 (fun H locs u35 e1 hW hS => ?_)
            replace h := z_ly h e1
            clear e1
            refine lv_aload_n hx hb dX11_asks_212 rfl (lv_at hl 1 rfl) ?_
            refine lv_iconst (v := (1 : Int32)) hx hb dX11_asks_213 (by decide) ?_
            replace h := z_bd2 h
            obtain ⟨r36, u37, hq, h⟩ := h
            refine z_cvi (As := [.int (bI true)]) C0 hml hl.1 hW hS (c_X11_read l D A b true u35 hq) mv_X11_175 rfl ⟨Nat.le_of_ble_eq_true rfl, Nat.le_of_ble_eq_true rfl⟩ rfl rfl (Nat.le_of_ble_eq_true rfl) dX11_asks_214 (fun H locs hW hS => ?_)
            clear hq
            refine lv_istore_n (lv' := [(3, .int r36), (2, .int z30), (0, .ref (b + 0)), (1, .int a1)]) hx hb dX11_asks_217 rfl hl (by decide) rfl (fun ls hl => ?_)
            refine lv_aload_n hx hb dX11_asks_218 rfl (lv_at hl 2 rfl) ?_
            refine lv_iload_n hx hb dX11_asks_219 rfl (lv_at hl 1 rfl) ?_
            refine z_puti C0 hW hS fl_X11_25 rfl rfl rfl rfl dX11_asks_220 (fun H locs u38 e1 hW hS => ?_)
            replace h := z_ly h e1
            clear e1
            cases h
            exact z_vret C0 hr hlk hW hS dX11_asks_223
          · replace h := z_t h hc
            clear hc
            refine lv_iconst (v := (1 : Int32)) hx hb dX11_asks_167 (by decide) ?_
            refine lv_goto (tgt := 172) hx hb dX11_asks_168 (by decide) ?_
            refine z_puti C0 hW hS fl_X11_202 rfl rfl rfl rfl dX11_asks_172 (fun H locs u39 e1 hW hS => ?_)
            replace h := z_ly h e1
            clear e1
            refine lv_aload_n hx hb dX11_asks_175 rfl (lv_at hl 1 rfl) ?_
            refine z_geti C0 hW fl_X11_25 rfl rfl dX11_asks_176 ?_
            refine lv_topi (fun z40 e1 => ?_)
            replace h := z_ly h e1
            clear e1
            refine lv_istore_n (lv' := [(2, .int z40), (0, .ref (b + 0)), (1, .int a1)]) hx hb dX11_asks_179 rfl hl (by decide) rfl (fun ls hl => ?_)
            refine lv_aload_n hx hb dX11_asks_180 rfl (lv_at hl 1 rfl) ?_
            refine lv_iconst (v := (-1 : Int32)) hx hb dX11_asks_181 (by decide) ?_
            refine z_puti C0 hW hS fl_X11_25 rfl rfl rfl rfl dX11_asks_182 (fun H locs u41 e1 hW hS => ?_)
            replace h := z_ly h e1
            clear e1
            refine lv_aload_n hx hb dX11_asks_185 rfl (lv_at hl 1 rfl) ?_
            refine lv_sipush (v := (305 : Int32)) hx hb dX11_asks_186 (by decide) ?_
            refine z_puti C0 hW hS fl_X11_76 rfl rfl rfl rfl dX11_asks_189 (fun H locs u42 e1 hW hS => ?_)
            replace h := z_ly h e1
            clear e1
            refine lv_aload_n hx hb dX11_asks_192 rfl (lv_at hl 1 rfl) ?_
            refine lv_aload_n hx hb dX11_asks_193 rfl (lv_at hl 1 rfl) ?_
            refine z_getr (o := 1) C0 hW fl_X11_7 rfl rfl rfl dX11_asks_194 ?_
            refine lv_iconst (v := (2 : Int32)) hx hb dX11_asks_197 (by decide) ?_
            refine z_iald (k := 2) (n := 705) C0 hW rfl rfl (by decide) (by decide) dX11_asks_198 ?_
            refine z_puti C0 hW hS fl_X11_82 rfl rfl rfl rfl dX11_asks_199 (fun H locs u43 e1 hW hS => ?_)
            replace h := z_ly h e1
            clear e1
            refine lv_aload_n hx hb dX11_asks_202 rfl (lv_at hl 1 rfl) ?_
            refine lv_iconst (v := (0 : Int32)) hx hb dX11_asks_203 (by decide) ?_
            refine z_puti C0 hW hS fl_X11_79 rfl rfl rfl rfl dX11_asks_204 (fun H locs u44 e1 hW hS => ?_)
            replace h := z_ly h e1
            clear e1
            refine lv_aload_n hx hb dX11_asks_207 rfl (lv_at hl 1 rfl) ?_
            refine lv_iconst (v := (0 : Int32)) hx hb dX11_asks_208 (by decide) ?_
            refine z_puti C0 hW hS fl_X11_157 rfl rfl rfl rfl dX11_asks_209 (fun H locs u45 e1 hW hS => ?_)
            replace h := z_ly h e1
            clear e1
            refine lv_aload_n hx hb dX11_asks_212 rfl (lv_at hl 1 rfl) ?_
            refine lv_iconst (v := (1 : Int32)) hx hb dX11_asks_213 (by decide) ?_
            replace h := z_bd2 h
            obtain ⟨r46, u47, hq, h⟩ := h
            refine z_cvi (As := [.int (bI true)]) C0 hml hl.1 hW hS (c_X11_read l D A b true u45 hq) mv_X11_175 rfl ⟨Nat.le_of_ble_eq_true rfl, Nat.le_of_ble_eq_true rfl⟩ rfl rfl (Nat.le_of_ble_eq_true rfl) dX11_asks_214 (fun H locs hW hS => ?_)
            clear hq
            refine lv_istore_n (lv' := [(3, .int r46), (2, .int z40), (0, .ref (b + 0)), (1, .int a1)]) hx hb dX11_asks_217 rfl hl (by decide) rfl (fun ls hl => ?_)
            refine lv_aload_n hx hb dX11_asks_218 rfl (lv_at hl 2 rfl) ?_
            refine lv_iload_n hx hb dX11_asks_219 rfl (lv_at hl 1 rfl) ?_
            refine z_puti C0 hW hS fl_X11_25 rfl rfl rfl rfl dX11_asks_220 (fun H locs u48 e1 hW hS => ?_)
            replace h := z_ly h e1
            clear e1
            cases h
            exact z_vret C0 hr hlk hW hS dX11_asks_223
        · replace h := z_f h hc
          clear hc
          refine lv_iconst (v := (1 : Int32)) hx hb dX11_asks_146 (by decide) ?_
          refine lv_goto (tgt := 151) hx hb dX11_asks_147 (by decide) ?_
          refine z_puti C0 hW hS fl_X11_196 rfl rfl rfl rfl dX11_asks_151 (fun H locs u49 e1 hW hS => ?_)
          replace h := z_ly h e1
          clear e1
          refine lv_aload_n hx hb dX11_asks_154 rfl (lv_at hl 1 rfl) ?_
          refine lv_aload_n hx hb dX11_asks_155 rfl (lv_at hl 1 rfl) ?_
          refine lv_iload_n hx hb dX11_asks_156 rfl (lv_at hl 0 rfl) ?_
          replace h := z_bd h
          obtain ⟨r50, hq, h⟩ := h
          refine z_cvi (As := [.int r13]) C0 hml hl.1 hW hS (c_X11_those l D A b r13 u49 hq) mv_X11_53 rfl ⟨Nat.le_of_ble_eq_true rfl, Nat.le_of_ble_eq_true rfl⟩ rfl rfl (Nat.le_of_ble_eq_true rfl) dX11_asks_157 (fun H locs hW hS => ?_)
          clear hq
          replace h := z_bd h
          obtain ⟨r51, hq, h⟩ := h
          refine z_csi (As := [.int r50]) C0 hml hl.1 hW hS (c_X11_bits l D A b r50 u49 hq) ms_X11_57 ⟨Nat.le_of_ble_eq_true rfl, Nat.le_of_ble_eq_true rfl⟩ rfl rfl (Nat.le_of_ble_eq_true rfl) dX11_asks_160 (fun H locs hW hS => ?_)
          clear hq
          refine lv_iconst (v := (1 : Int32)) hx hb dX11_asks_163 (by decide) ?_
          refine lv_icmp_ne (tgt := 171) hx hb dX11_asks_164 (by decide) (fun hc => ?_) (fun hc => ?_)
          · replace h := z_f h hc
            clear hc
            refine lv_iconst (v := (0 : Int32)) hx hb dX11_asks_171 (by decide) ?_
            refine z_puti C0 hW hS fl_X11_202 rfl rfl rfl rfl dX11_asks_172 (fun H locs u52 e1 hW hS => ?_)
            replace h := z_ly h e1
            clear e1
            refine lv_aload_n hx hb dX11_asks_175 rfl (lv_at hl 1 rfl) ?_
            refine z_geti C0 hW fl_X11_25 rfl rfl dX11_asks_176 ?_
            refine lv_topi (fun z53 e1 => ?_)
            replace h := z_ly h e1
            clear e1
            refine lv_istore_n (lv' := [(2, .int z53), (0, .ref (b + 0)), (1, .int a1)]) hx hb dX11_asks_179 rfl hl (by decide) rfl (fun ls hl => ?_)
            refine lv_aload_n hx hb dX11_asks_180 rfl (lv_at hl 1 rfl) ?_
            refine lv_iconst (v := (-1 : Int32)) hx hb dX11_asks_181 (by decide) ?_
            refine z_puti C0 hW hS fl_X11_25 rfl rfl rfl rfl dX11_asks_182 (fun H locs u54 e1 hW hS => ?_)
            replace h := z_ly h e1
            clear e1
            refine lv_aload_n hx hb dX11_asks_185 rfl (lv_at hl 1 rfl) ?_
            refine lv_sipush (v := (305 : Int32)) hx hb dX11_asks_186 (by decide) ?_
            refine z_puti C0 hW hS fl_X11_76 rfl rfl rfl rfl dX11_asks_189 (fun H locs u55 e1 hW hS => ?_)
            replace h := z_ly h e1
            clear e1
            refine lv_aload_n hx hb dX11_asks_192 rfl (lv_at hl 1 rfl) ?_
            refine lv_aload_n hx hb dX11_asks_193 rfl (lv_at hl 1 rfl) ?_
            refine z_getr (o := 1) C0 hW fl_X11_7 rfl rfl rfl dX11_asks_194 ?_
            refine lv_iconst (v := (2 : Int32)) hx hb dX11_asks_197 (by decide) ?_
            refine z_iald (k := 2) (n := 705) C0 hW rfl rfl (by decide) (by decide) dX11_asks_198 ?_
            refine z_puti C0 hW hS fl_X11_82 rfl rfl rfl rfl dX11_asks_199 (fun H locs u56 e1 hW hS => ?_)
            replace h := z_ly h e1
            clear e1
            refine lv_aload_n hx hb dX11_asks_202 rfl (lv_at hl 1 rfl) ?_
            refine lv_iconst (v := (0 : Int32)) hx hb dX11_asks_203 (by decide) ?_
            refine z_puti C0 hW hS fl_X11_79 rfl rfl rfl rfl dX11_asks_204 (fun H locs u57 e1 hW hS => ?_)
            replace h := z_ly h e1
            clear e1
            refine lv_aload_n hx hb dX11_asks_207 rfl (lv_at hl 1 rfl) ?_
            refine lv_iconst (v := (0 : Int32)) hx hb dX11_asks_208 (by decide) ?_
            refine z_puti C0 hW hS fl_X11_157 rfl rfl rfl rfl dX11_asks_209 (fun H locs u58 e1 hW hS => ?_)
            replace h := z_ly h e1
            clear e1
            refine lv_aload_n hx hb dX11_asks_212 rfl (lv_at hl 1 rfl) ?_
            refine lv_iconst (v := (1 : Int32)) hx hb dX11_asks_213 (by decide) ?_
            replace h := z_bd2 h
            obtain ⟨r59, u60, hq, h⟩ := h
            refine z_cvi (As := [.int (bI true)]) C0 hml hl.1 hW hS (c_X11_read l D A b true u58 hq) mv_X11_175 rfl ⟨Nat.le_of_ble_eq_true rfl, Nat.le_of_ble_eq_true rfl⟩ rfl rfl (Nat.le_of_ble_eq_true rfl) dX11_asks_214 (fun H locs hW hS => ?_)
            clear hq
            refine lv_istore_n (lv' := [(3, .int r59), (2, .int z53), (0, .ref (b + 0)), (1, .int a1)]) hx hb dX11_asks_217 rfl hl (by decide) rfl (fun ls hl => ?_)
            refine lv_aload_n hx hb dX11_asks_218 rfl (lv_at hl 2 rfl) ?_
            refine lv_iload_n hx hb dX11_asks_219 rfl (lv_at hl 1 rfl) ?_
            refine z_puti C0 hW hS fl_X11_25 rfl rfl rfl rfl dX11_asks_220 (fun H locs u61 e1 hW hS => ?_)
            replace h := z_ly h e1
            clear e1
            cases h
            exact z_vret C0 hr hlk hW hS dX11_asks_223
          · replace h := z_t h hc
            clear hc
            refine lv_iconst (v := (1 : Int32)) hx hb dX11_asks_167 (by decide) ?_
            refine lv_goto (tgt := 172) hx hb dX11_asks_168 (by decide) ?_
            refine z_puti C0 hW hS fl_X11_202 rfl rfl rfl rfl dX11_asks_172 (fun H locs u62 e1 hW hS => ?_)
            replace h := z_ly h e1
            clear e1
            refine lv_aload_n hx hb dX11_asks_175 rfl (lv_at hl 1 rfl) ?_
            refine z_geti C0 hW fl_X11_25 rfl rfl dX11_asks_176 ?_
            refine lv_topi (fun z63 e1 => ?_)
            replace h := z_ly h e1
            clear e1
            refine lv_istore_n (lv' := [(2, .int z63), (0, .ref (b + 0)), (1, .int a1)]) hx hb dX11_asks_179 rfl hl (by decide) rfl (fun ls hl => ?_)
            refine lv_aload_n hx hb dX11_asks_180 rfl (lv_at hl 1 rfl) ?_
            refine lv_iconst (v := (-1 : Int32)) hx hb dX11_asks_181 (by decide) ?_
            refine z_puti C0 hW hS fl_X11_25 rfl rfl rfl rfl dX11_asks_182 (fun H locs u64 e1 hW hS => ?_)
            replace h := z_ly h e1
            clear e1
            refine lv_aload_n hx hb dX11_asks_185 rfl (lv_at hl 1 rfl) ?_
            refine lv_sipush (v := (305 : Int32)) hx hb dX11_asks_186 (by decide) ?_
            refine z_puti C0 hW hS fl_X11_76 rfl rfl rfl rfl dX11_asks_189 (fun H locs u65 e1 hW hS => ?_)
            replace h := z_ly h e1
            clear e1
            refine lv_aload_n hx hb dX11_asks_192 rfl (lv_at hl 1 rfl) ?_
            refine lv_aload_n hx hb dX11_asks_193 rfl (lv_at hl 1 rfl) ?_
            refine z_getr (o := 1) C0 hW fl_X11_7 rfl rfl rfl dX11_asks_194 ?_
            refine lv_iconst (v := (2 : Int32)) hx hb dX11_asks_197 (by decide) ?_
            refine z_iald (k := 2) (n := 705) C0 hW rfl rfl (by decide) (by decide) dX11_asks_198 ?_
            refine z_puti C0 hW hS fl_X11_82 rfl rfl rfl rfl dX11_asks_199 (fun H locs u66 e1 hW hS => ?_)
            replace h := z_ly h e1
            clear e1
            refine lv_aload_n hx hb dX11_asks_202 rfl (lv_at hl 1 rfl) ?_
            refine lv_iconst (v := (0 : Int32)) hx hb dX11_asks_203 (by decide) ?_
            refine z_puti C0 hW hS fl_X11_79 rfl rfl rfl rfl dX11_asks_204 (fun H locs u67 e1 hW hS => ?_)
            replace h := z_ly h e1
            clear e1
            refine lv_aload_n hx hb dX11_asks_207 rfl (lv_at hl 1 rfl) ?_
            refine lv_iconst (v := (0 : Int32)) hx hb dX11_asks_208 (by decide) ?_
            refine z_puti C0 hW hS fl_X11_157 rfl rfl rfl rfl dX11_asks_209 (fun H locs u68 e1 hW hS => ?_)
            replace h := z_ly h e1
            clear e1
            refine lv_aload_n hx hb dX11_asks_212 rfl (lv_at hl 1 rfl) ?_
            refine lv_iconst (v := (1 : Int32)) hx hb dX11_asks_213 (by decide) ?_
            replace h := z_bd2 h
            obtain ⟨r69, u70, hq, h⟩ := h
            refine z_cvi (As := [.int (bI true)]) C0 hml hl.1 hW hS (c_X11_read l D A b true u68 hq) mv_X11_175 rfl ⟨Nat.le_of_ble_eq_true rfl, Nat.le_of_ble_eq_true rfl⟩ rfl rfl (Nat.le_of_ble_eq_true rfl) dX11_asks_214 (fun H locs hW hS => ?_)
            clear hq
            refine lv_istore_n (lv' := [(3, .int r69), (2, .int z63), (0, .ref (b + 0)), (1, .int a1)]) hx hb dX11_asks_217 rfl hl (by decide) rfl (fun ls hl => ?_)
            refine lv_aload_n hx hb dX11_asks_218 rfl (lv_at hl 2 rfl) ?_
            refine lv_iload_n hx hb dX11_asks_219 rfl (lv_at hl 1 rfl) ?_
            refine z_puti C0 hW hS fl_X11_25 rfl rfl rfl rfl dX11_asks_220 (fun H locs u71 e1 hW hS => ?_)
            replace h := z_ly h e1
            clear e1
            cases h
            exact z_vret C0 hr hlk hW hS dX11_asks_223
    · replace h := z_t h hc
      clear hc
      refine lv_iconst (v := (1 : Int32)) hx hb dX11_asks_27 (by decide) ?_
      refine lv_goto (tgt := 32) hx hb dX11_asks_28 (by decide) ?_
      refine z_puti C0 hW hS fl_X11_235 rfl rfl rfl rfl dX11_asks_32 (fun H locs u72 e1 hW hS => ?_)
      replace h := z_ly h e1
      clear e1
      refine lv_iload_n hx hb dX11_asks_35 rfl (lv_at hl 1 rfl) ?_
      refine lv_iconst (v := (-1 : Int32)) hx hb dX11_asks_36 (by decide) ?_
      refine lv_icmp_eq (tgt := 175) hx hb dX11_asks_37 (by decide) (fun hc => ?_) (fun hc => ?_)
      · replace h := z_t h hc
        clear hc
        refine lv_aload_n hx hb dX11_asks_175 rfl (lv_at hl 0 rfl) ?_
        refine z_geti C0 hW fl_X11_25 rfl rfl dX11_asks_176 ?_
        refine lv_topi (fun z73 e1 => ?_)
        replace h := z_ly h e1
        clear e1
        refine lv_istore_n (lv' := [(2, .int z73), (0, .ref (b + 0)), (1, .int a1)]) hx hb dX11_asks_179 rfl hl (by decide) rfl (fun ls hl => ?_)
        refine lv_aload_n hx hb dX11_asks_180 rfl (lv_at hl 1 rfl) ?_
        refine lv_iconst (v := (-1 : Int32)) hx hb dX11_asks_181 (by decide) ?_
        refine z_puti C0 hW hS fl_X11_25 rfl rfl rfl rfl dX11_asks_182 (fun H locs u74 e1 hW hS => ?_)
        replace h := z_ly h e1
        clear e1
        refine lv_aload_n hx hb dX11_asks_185 rfl (lv_at hl 1 rfl) ?_
        refine lv_sipush (v := (305 : Int32)) hx hb dX11_asks_186 (by decide) ?_
        refine z_puti C0 hW hS fl_X11_76 rfl rfl rfl rfl dX11_asks_189 (fun H locs u75 e1 hW hS => ?_)
        replace h := z_ly h e1
        clear e1
        refine lv_aload_n hx hb dX11_asks_192 rfl (lv_at hl 1 rfl) ?_
        refine lv_aload_n hx hb dX11_asks_193 rfl (lv_at hl 1 rfl) ?_
        refine z_getr (o := 1) C0 hW fl_X11_7 rfl rfl rfl dX11_asks_194 ?_
        refine lv_iconst (v := (2 : Int32)) hx hb dX11_asks_197 (by decide) ?_
        refine z_iald (k := 2) (n := 705) C0 hW rfl rfl (by decide) (by decide) dX11_asks_198 ?_
        refine z_puti C0 hW hS fl_X11_82 rfl rfl rfl rfl dX11_asks_199 (fun H locs u76 e1 hW hS => ?_)
        replace h := z_ly h e1
        clear e1
        refine lv_aload_n hx hb dX11_asks_202 rfl (lv_at hl 1 rfl) ?_
        refine lv_iconst (v := (0 : Int32)) hx hb dX11_asks_203 (by decide) ?_
        refine z_puti C0 hW hS fl_X11_79 rfl rfl rfl rfl dX11_asks_204 (fun H locs u77 e1 hW hS => ?_)
        replace h := z_ly h e1
        clear e1
        refine lv_aload_n hx hb dX11_asks_207 rfl (lv_at hl 1 rfl) ?_
        refine lv_iconst (v := (0 : Int32)) hx hb dX11_asks_208 (by decide) ?_
        refine z_puti C0 hW hS fl_X11_157 rfl rfl rfl rfl dX11_asks_209 (fun H locs u78 e1 hW hS => ?_)
        replace h := z_ly h e1
        clear e1
        refine lv_aload_n hx hb dX11_asks_212 rfl (lv_at hl 1 rfl) ?_
        refine lv_iconst (v := (1 : Int32)) hx hb dX11_asks_213 (by decide) ?_
        replace h := z_bd2 h
        obtain ⟨r79, u80, hq, h⟩ := h
        refine z_cvi (As := [.int (bI true)]) C0 hml hl.1 hW hS (c_X11_read l D A b true u78 hq) mv_X11_175 rfl ⟨Nat.le_of_ble_eq_true rfl, Nat.le_of_ble_eq_true rfl⟩ rfl rfl (Nat.le_of_ble_eq_true rfl) dX11_asks_214 (fun H locs hW hS => ?_)
        clear hq
        refine lv_istore_n (lv' := [(3, .int r79), (2, .int z73), (0, .ref (b + 0)), (1, .int a1)]) hx hb dX11_asks_217 rfl hl (by decide) rfl (fun ls hl => ?_)
        refine lv_aload_n hx hb dX11_asks_218 rfl (lv_at hl 2 rfl) ?_
        refine lv_iload_n hx hb dX11_asks_219 rfl (lv_at hl 1 rfl) ?_
        refine z_puti C0 hW hS fl_X11_25 rfl rfl rfl rfl dX11_asks_220 (fun H locs u81 e1 hW hS => ?_)
        replace h := z_ly h e1
        clear e1
        cases h
        exact z_vret C0 hr hlk hW hS dX11_asks_223
      · replace h := z_f h hc
        clear hc
        refine lv_aload_n hx hb dX11_asks_40 rfl (lv_at hl 0 rfl) ?_
        refine lv_iload_n hx hb dX11_asks_41 rfl (lv_at hl 1 rfl) ?_
        refine lv_iconst (v := (0 : Int32)) hx hb dX11_asks_42 (by decide) ?_
        replace h := z_bd h
        obtain ⟨r82, hq, h⟩ := h
        refine z_cvi (As := [.int a1, .int (0 : Int32)]) C0 hml hl.1 hW hS (c_X11_of l D A b a1 (0 : Int32) u72 hq) mv_X11_49 rfl ⟨Nat.le_of_ble_eq_true rfl, Nat.le_of_ble_eq_true rfl⟩ rfl rfl (Nat.le_of_ble_eq_true rfl) dX11_asks_43 (fun H locs hW hS => ?_)
        clear hq
        refine lv_istore_n (lv' := [(2, .int r82), (0, .ref (b + 0)), (1, .int a1)]) hx hb dX11_asks_46 rfl hl (by decide) rfl (fun ls hl => ?_)
        refine lv_aload_n hx hb dX11_asks_47 rfl (lv_at hl 1 rfl) ?_
        refine z_getr (o := 6) C0 hW fl_X11_29 rfl rfl rfl dX11_asks_48 ?_
        refine lv_iconst (v := (0 : Int32)) hx hb dX11_asks_51 (by decide) ?_
        refine lv_iload_n hx hb dX11_asks_52 rfl (lv_at hl 0 rfl) ?_
        refine z_iast (k := 0) (n := 7) C0 hW hS rfl rfl (by decide) (by decide) dX11_asks_53 (fun H locs u83 e1 hW hS => ?_)
        replace h := z_ly h e1
        clear e1
        refine lv_aload_n hx hb dX11_asks_54 rfl (lv_at hl 1 rfl) ?_
        refine z_getr (o := 6) C0 hW fl_X11_29 rfl rfl rfl dX11_asks_55 ?_
        refine lv_iconst (v := (1 : Int32)) hx hb dX11_asks_58 (by decide) ?_
        refine lv_aload_n hx hb dX11_asks_59 rfl (lv_at hl 1 rfl) ?_
        refine lv_iload_n hx hb dX11_asks_60 rfl (lv_at hl 2 rfl) ?_
        refine lv_iconst (v := (1 : Int32)) hx hb dX11_asks_61 (by decide) ?_
        replace h := z_bd h
        obtain ⟨r84, hq, h⟩ := h
        refine z_cvi (As := [.int a1, .int (1 : Int32)]) C0 hml hl.1 hW hS (c_X11_of l D A b a1 (1 : Int32) u83 hq) mv_X11_49 rfl ⟨Nat.le_of_ble_eq_true rfl, Nat.le_of_ble_eq_true rfl⟩ rfl rfl (Nat.le_of_ble_eq_true rfl) dX11_asks_62 (fun H locs hW hS => ?_)
        clear hq
        refine z_iast (k := 1) (n := 7) C0 hW hS rfl rfl (by decide) (by decide) dX11_asks_65 (fun H locs u85 e1 hW hS => ?_)
        replace h := z_ly h e1
        clear e1
        refine lv_aload_n hx hb dX11_asks_66 rfl (lv_at hl 1 rfl) ?_
        refine z_getr (o := 6) C0 hW fl_X11_29 rfl rfl rfl dX11_asks_67 ?_
        refine lv_iconst (v := (2 : Int32)) hx hb dX11_asks_70 (by decide) ?_
        refine lv_aload_n hx hb dX11_asks_71 rfl (lv_at hl 1 rfl) ?_
        refine lv_iload_n hx hb dX11_asks_72 rfl (lv_at hl 2 rfl) ?_
        refine lv_iconst (v := (3 : Int32)) hx hb dX11_asks_73 (by decide) ?_
        replace h := z_bd h
        obtain ⟨r86, hq, h⟩ := h
        refine z_cvi (As := [.int a1, .int (3 : Int32)]) C0 hml hl.1 hW hS (c_X11_of l D A b a1 (3 : Int32) u85 hq) mv_X11_49 rfl ⟨Nat.le_of_ble_eq_true rfl, Nat.le_of_ble_eq_true rfl⟩ rfl rfl (Nat.le_of_ble_eq_true rfl) dX11_asks_74 (fun H locs hW hS => ?_)
        clear hq
        refine z_iast (k := 2) (n := 7) C0 hW hS rfl rfl (by decide) (by decide) dX11_asks_77 (fun H locs u87 e1 hW hS => ?_)
        replace h := z_ly h e1
        clear e1
        refine lv_aload_n hx hb dX11_asks_78 rfl (lv_at hl 1 rfl) ?_
        refine z_getr (o := 6) C0 hW fl_X11_29 rfl rfl rfl dX11_asks_79 ?_
        refine lv_iconst (v := (3 : Int32)) hx hb dX11_asks_82 (by decide) ?_
        refine lv_aload_n hx hb dX11_asks_83 rfl (lv_at hl 1 rfl) ?_
        refine z_getr (o := 1) C0 hW fl_X11_7 rfl rfl rfl dX11_asks_84 ?_
        refine lv_bipush (v := (17 : Int32)) hx hb dX11_asks_87 (by decide) ?_
        refine lv_iload_n hx hb dX11_asks_89 rfl (lv_at hl 0 rfl) ?_
        refine lv_iadd hx hb dX11_asks_90 ?_
        replace h := z_if h
        obtain ⟨hin, h⟩ := h
        refine z_iald (n := 705) C0 hW rfl rfl hin rfl dX11_asks_91 ?_
        clear hin
        refine lv_topi (fun z88 e1 => ?_)
        replace h := z_ly h e1
        clear e1
        refine z_iast (k := 3) (n := 7) C0 hW hS rfl rfl (by decide) (by decide) dX11_asks_92 (fun H locs u89 e1 hW hS => ?_)
        replace h := z_ly h e1
        clear e1
        refine lv_aload_n hx hb dX11_asks_93 rfl (lv_at hl 1 rfl) ?_
        refine z_getr (o := 6) C0 hW fl_X11_29 rfl rfl rfl dX11_asks_94 ?_
        refine lv_iconst (v := (4 : Int32)) hx hb dX11_asks_97 (by decide) ?_
        refine lv_aload_n hx hb dX11_asks_98 rfl (lv_at hl 1 rfl) ?_
        refine z_getr (o := 1) C0 hW fl_X11_7 rfl rfl rfl dX11_asks_99 ?_
        refine lv_bipush (v := (9 : Int32)) hx hb dX11_asks_102 (by decide) ?_
        refine z_iald (k := 9) (n := 705) C0 hW rfl rfl (by decide) (by decide) dX11_asks_104 ?_
        refine z_iast (k := 4) (n := 7) C0 hW hS rfl rfl (by decide) (by decide) dX11_asks_105 (fun H locs u90 e1 hW hS => ?_)
        replace h := z_ly h e1
        clear e1
        refine lv_aload_n hx hb dX11_asks_106 rfl (lv_at hl 1 rfl) ?_
        refine z_getr (o := 6) C0 hW fl_X11_29 rfl rfl rfl dX11_asks_107 ?_
        refine lv_iconst (v := (5 : Int32)) hx hb dX11_asks_110 (by decide) ?_
        refine lv_aload_n hx hb dX11_asks_111 rfl (lv_at hl 1 rfl) ?_
        refine lv_iload_n hx hb dX11_asks_112 rfl (lv_at hl 0 rfl) ?_
        obtain ⟨r91, hq⟩ : ∃ y, f_X11_heightOf r82 u90 = y := ⟨_, rfl⟩
        replace h := z_lz h hq
        refine z_cvi (As := [.int r82]) C0 hml hl.1 hW hS (c_X11_heightOf l D A b r82 u90 hq) mv_X11_243 rfl ⟨Nat.le_of_ble_eq_true rfl, Nat.le_of_ble_eq_true rfl⟩ rfl rfl (Nat.le_of_ble_eq_true rfl) dX11_asks_113 (fun H locs hW hS => ?_)
        clear hq
        refine z_iast (k := 5) (n := 7) C0 hW hS rfl rfl (by decide) (by decide) dX11_asks_116 (fun H locs u92 e1 hW hS => ?_)
        replace h := z_ly h e1
        clear e1
        refine lv_aload_n hx hb dX11_asks_117 rfl (lv_at hl 1 rfl) ?_
        refine z_getr (o := 6) C0 hW fl_X11_29 rfl rfl rfl dX11_asks_118 ?_
        refine lv_bipush (v := (6 : Int32)) hx hb dX11_asks_121 (by decide) ?_
        refine lv_aload_n hx hb dX11_asks_123 rfl (lv_at hl 1 rfl) ?_
        refine z_getr (o := 1) C0 hW fl_X11_7 rfl rfl rfl dX11_asks_124 ?_
        refine lv_bipush (v := (6 : Int32)) hx hb dX11_asks_127 (by decide) ?_
        refine z_iald (k := 6) (n := 705) C0 hW rfl rfl (by decide) (by decide) dX11_asks_129 ?_
        refine lv_bipush (v := (100 : Int32)) hx hb dX11_asks_130 (by decide) ?_
        refine lv_idiv hx hb dX11_asks_132 (by decide) ?_
        refine z_iast (k := 6) (n := 7) C0 hW hS rfl rfl (by decide) (by decide) dX11_asks_133 (fun H locs u93 e1 hW hS => ?_)
        replace h := z_ly h e1
        clear e1
        refine lv_aload_n hx hb dX11_asks_134 rfl (lv_at hl 1 rfl) ?_
        refine lv_aload_n hx hb dX11_asks_135 rfl (lv_at hl 1 rfl) ?_
        refine lv_iload_n hx hb dX11_asks_136 rfl (lv_at hl 2 rfl) ?_
        refine lv_iconst (v := (2 : Int32)) hx hb dX11_asks_137 (by decide) ?_
        replace h := z_bd h
        obtain ⟨r94, hq, h⟩ := h
        refine z_cvi (As := [.int a1, .int (2 : Int32)]) C0 hml hl.1 hW hS (c_X11_of l D A b a1 (2 : Int32) u93 hq) mv_X11_49 rfl ⟨Nat.le_of_ble_eq_true rfl, Nat.le_of_ble_eq_true rfl⟩ rfl rfl (Nat.le_of_ble_eq_true rfl) dX11_asks_138 (fun H locs hW hS => ?_)
        clear hq
        refine lv_bipush (v := (50 : Int32)) hx hb dX11_asks_141 (by decide) ?_
        refine lv_icmp_lt (tgt := 150) hx hb dX11_asks_143 (by decide) (fun hc => ?_) (fun hc => ?_)
        · replace h := z_t h hc
          clear hc
          refine lv_iconst (v := (0 : Int32)) hx hb dX11_asks_150 (by decide) ?_
          refine z_puti C0 hW hS fl_X11_196 rfl rfl rfl rfl dX11_asks_151 (fun H locs u95 e1 hW hS => ?_)
          replace h := z_ly h e1
          clear e1
          refine lv_aload_n hx hb dX11_asks_154 rfl (lv_at hl 1 rfl) ?_
          refine lv_aload_n hx hb dX11_asks_155 rfl (lv_at hl 1 rfl) ?_
          refine lv_iload_n hx hb dX11_asks_156 rfl (lv_at hl 0 rfl) ?_
          replace h := z_bd h
          obtain ⟨r96, hq, h⟩ := h
          refine z_cvi (As := [.int r82]) C0 hml hl.1 hW hS (c_X11_those l D A b r82 u95 hq) mv_X11_53 rfl ⟨Nat.le_of_ble_eq_true rfl, Nat.le_of_ble_eq_true rfl⟩ rfl rfl (Nat.le_of_ble_eq_true rfl) dX11_asks_157 (fun H locs hW hS => ?_)
          clear hq
          replace h := z_bd h
          obtain ⟨r97, hq, h⟩ := h
          refine z_csi (As := [.int r96]) C0 hml hl.1 hW hS (c_X11_bits l D A b r96 u95 hq) ms_X11_57 ⟨Nat.le_of_ble_eq_true rfl, Nat.le_of_ble_eq_true rfl⟩ rfl rfl (Nat.le_of_ble_eq_true rfl) dX11_asks_160 (fun H locs hW hS => ?_)
          clear hq
          refine lv_iconst (v := (1 : Int32)) hx hb dX11_asks_163 (by decide) ?_
          refine lv_icmp_ne (tgt := 171) hx hb dX11_asks_164 (by decide) (fun hc => ?_) (fun hc => ?_)
          · replace h := z_f h hc
            clear hc
            refine lv_iconst (v := (0 : Int32)) hx hb dX11_asks_171 (by decide) ?_
            refine z_puti C0 hW hS fl_X11_202 rfl rfl rfl rfl dX11_asks_172 (fun H locs u98 e1 hW hS => ?_)
            replace h := z_ly h e1
            clear e1
            refine lv_aload_n hx hb dX11_asks_175 rfl (lv_at hl 1 rfl) ?_
            refine z_geti C0 hW fl_X11_25 rfl rfl dX11_asks_176 ?_
            refine lv_topi (fun z99 e1 => ?_)
            replace h := z_ly h e1
            clear e1
            refine lv_istore_n (lv' := [(2, .int z99), (0, .ref (b + 0)), (1, .int a1)]) hx hb dX11_asks_179 rfl hl (by decide) rfl (fun ls hl => ?_)
            refine lv_aload_n hx hb dX11_asks_180 rfl (lv_at hl 1 rfl) ?_
            refine lv_iconst (v := (-1 : Int32)) hx hb dX11_asks_181 (by decide) ?_
            refine z_puti C0 hW hS fl_X11_25 rfl rfl rfl rfl dX11_asks_182 (fun H locs u100 e1 hW hS => ?_)
            replace h := z_ly h e1
            clear e1
            refine lv_aload_n hx hb dX11_asks_185 rfl (lv_at hl 1 rfl) ?_
            refine lv_sipush (v := (305 : Int32)) hx hb dX11_asks_186 (by decide) ?_
            refine z_puti C0 hW hS fl_X11_76 rfl rfl rfl rfl dX11_asks_189 (fun H locs u101 e1 hW hS => ?_)
            replace h := z_ly h e1
            clear e1
            refine lv_aload_n hx hb dX11_asks_192 rfl (lv_at hl 1 rfl) ?_
            refine lv_aload_n hx hb dX11_asks_193 rfl (lv_at hl 1 rfl) ?_
            refine z_getr (o := 1) C0 hW fl_X11_7 rfl rfl rfl dX11_asks_194 ?_
            refine lv_iconst (v := (2 : Int32)) hx hb dX11_asks_197 (by decide) ?_
            refine z_iald (k := 2) (n := 705) C0 hW rfl rfl (by decide) (by decide) dX11_asks_198 ?_
            refine z_puti C0 hW hS fl_X11_82 rfl rfl rfl rfl dX11_asks_199 (fun H locs u102 e1 hW hS => ?_)
            replace h := z_ly h e1
            clear e1
            refine lv_aload_n hx hb dX11_asks_202 rfl (lv_at hl 1 rfl) ?_
            refine lv_iconst (v := (0 : Int32)) hx hb dX11_asks_203 (by decide) ?_
            refine z_puti C0 hW hS fl_X11_79 rfl rfl rfl rfl dX11_asks_204 (fun H locs u103 e1 hW hS => ?_)
            replace h := z_ly h e1
            clear e1
            refine lv_aload_n hx hb dX11_asks_207 rfl (lv_at hl 1 rfl) ?_
            refine lv_iconst (v := (0 : Int32)) hx hb dX11_asks_208 (by decide) ?_
            refine z_puti C0 hW hS fl_X11_157 rfl rfl rfl rfl dX11_asks_209 (fun H locs u104 e1 hW hS => ?_)
            replace h := z_ly h e1
            clear e1
            refine lv_aload_n hx hb dX11_asks_212 rfl (lv_at hl 1 rfl) ?_
            refine lv_iconst (v := (1 : Int32)) hx hb dX11_asks_213 (by decide) ?_
            replace h := z_bd2 h
            obtain ⟨r105, u106, hq, h⟩ := h
            refine z_cvi (As := [.int (bI true)]) C0 hml hl.1 hW hS (c_X11_read l D A b true u104 hq) mv_X11_175 rfl ⟨Nat.le_of_ble_eq_true rfl, Nat.le_of_ble_eq_true rfl⟩ rfl rfl (Nat.le_of_ble_eq_true rfl) dX11_asks_214 (fun H locs hW hS => ?_)
            clear hq
            refine lv_istore_n (lv' := [(3, .int r105), (2, .int z99), (0, .ref (b + 0)), (1, .int a1)]) hx hb dX11_asks_217 rfl hl (by decide) rfl (fun ls hl => ?_)
            refine lv_aload_n hx hb dX11_asks_218 rfl (lv_at hl 2 rfl) ?_
            refine lv_iload_n hx hb dX11_asks_219 rfl (lv_at hl 1 rfl) ?_
            refine z_puti C0 hW hS fl_X11_25 rfl rfl rfl rfl dX11_asks_220 (fun H locs u107 e1 hW hS => ?_)
            replace h := z_ly h e1
            clear e1
            cases h
            exact z_vret C0 hr hlk hW hS dX11_asks_223
          · replace h := z_t h hc
            clear hc
            refine lv_iconst (v := (1 : Int32)) hx hb dX11_asks_167 (by decide) ?_
            refine lv_goto (tgt := 172) hx hb dX11_asks_168 (by decide) ?_
            refine z_puti C0 hW hS fl_X11_202 rfl rfl rfl rfl dX11_asks_172 (fun H locs u108 e1 hW hS => ?_)
            replace h := z_ly h e1
            clear e1
            refine lv_aload_n hx hb dX11_asks_175 rfl (lv_at hl 1 rfl) ?_
            refine z_geti C0 hW fl_X11_25 rfl rfl dX11_asks_176 ?_
            refine lv_topi (fun z109 e1 => ?_)
            replace h := z_ly h e1
            clear e1
            refine lv_istore_n (lv' := [(2, .int z109), (0, .ref (b + 0)), (1, .int a1)]) hx hb dX11_asks_179 rfl hl (by decide) rfl (fun ls hl => ?_)
            refine lv_aload_n hx hb dX11_asks_180 rfl (lv_at hl 1 rfl) ?_
            refine lv_iconst (v := (-1 : Int32)) hx hb dX11_asks_181 (by decide) ?_
            refine z_puti C0 hW hS fl_X11_25 rfl rfl rfl rfl dX11_asks_182 (fun H locs u110 e1 hW hS => ?_)
            replace h := z_ly h e1
            clear e1
            refine lv_aload_n hx hb dX11_asks_185 rfl (lv_at hl 1 rfl) ?_
            refine lv_sipush (v := (305 : Int32)) hx hb dX11_asks_186 (by decide) ?_
            refine z_puti C0 hW hS fl_X11_76 rfl rfl rfl rfl dX11_asks_189 (fun H locs u111 e1 hW hS => ?_)
            replace h := z_ly h e1
            clear e1
            refine lv_aload_n hx hb dX11_asks_192 rfl (lv_at hl 1 rfl) ?_
            refine lv_aload_n hx hb dX11_asks_193 rfl (lv_at hl 1 rfl) ?_
            refine z_getr (o := 1) C0 hW fl_X11_7 rfl rfl rfl dX11_asks_194 ?_
            refine lv_iconst (v := (2 : Int32)) hx hb dX11_asks_197 (by decide) ?_
            refine z_iald (k := 2) (n := 705) C0 hW rfl rfl (by decide) (by decide) dX11_asks_198 ?_
            refine z_puti C0 hW hS fl_X11_82 rfl rfl rfl rfl dX11_asks_199 (fun H locs u112 e1 hW hS => ?_)
            replace h := z_ly h e1
            clear e1
            refine lv_aload_n hx hb dX11_asks_202 rfl (lv_at hl 1 rfl) ?_
            refine lv_iconst (v := (0 : Int32)) hx hb dX11_asks_203 (by decide) ?_
            refine z_puti C0 hW hS fl_X11_79 rfl rfl rfl rfl dX11_asks_204 (fun H locs u113 e1 hW hS => ?_)
            replace h := z_ly h e1
            clear e1
            refine lv_aload_n hx hb dX11_asks_207 rfl (lv_at hl 1 rfl) ?_
            refine lv_iconst (v := (0 : Int32)) hx hb dX11_asks_208 (by decide) ?_
            refine z_puti C0 hW hS fl_X11_157 rfl rfl rfl rfl dX11_asks_209 (fun H locs u114 e1 hW hS => ?_)
            replace h := z_ly h e1
            clear e1
            refine lv_aload_n hx hb dX11_asks_212 rfl (lv_at hl 1 rfl) ?_
            refine lv_iconst (v := (1 : Int32)) hx hb dX11_asks_213 (by decide) ?_
            replace h := z_bd2 h
            obtain ⟨r115, u116, hq, h⟩ := h
            refine z_cvi (As := [.int (bI true)]) C0 hml hl.1 hW hS (c_X11_read l D A b true u114 hq) mv_X11_175 rfl ⟨Nat.le_of_ble_eq_true rfl, Nat.le_of_ble_eq_true rfl⟩ rfl rfl (Nat.le_of_ble_eq_true rfl) dX11_asks_214 (fun H locs hW hS => ?_)
            clear hq
            refine lv_istore_n (lv' := [(3, .int r115), (2, .int z109), (0, .ref (b + 0)), (1, .int a1)]) hx hb dX11_asks_217 rfl hl (by decide) rfl (fun ls hl => ?_)
            refine lv_aload_n hx hb dX11_asks_218 rfl (lv_at hl 2 rfl) ?_
            refine lv_iload_n hx hb dX11_asks_219 rfl (lv_at hl 1 rfl) ?_
            refine z_puti C0 hW hS fl_X11_25 rfl rfl rfl rfl dX11_asks_220 (fun H locs u117 e1 hW hS => ?_)
            replace h := z_ly h e1
            clear e1
            cases h
            exact z_vret C0 hr hlk hW hS dX11_asks_223
        · replace h := z_f h hc
          clear hc
          refine lv_iconst (v := (1 : Int32)) hx hb dX11_asks_146 (by decide) ?_
          refine lv_goto (tgt := 151) hx hb dX11_asks_147 (by decide) ?_
          refine z_puti C0 hW hS fl_X11_196 rfl rfl rfl rfl dX11_asks_151 (fun H locs u118 e1 hW hS => ?_)
          replace h := z_ly h e1
          clear e1
          refine lv_aload_n hx hb dX11_asks_154 rfl (lv_at hl 1 rfl) ?_
          refine lv_aload_n hx hb dX11_asks_155 rfl (lv_at hl 1 rfl) ?_
          refine lv_iload_n hx hb dX11_asks_156 rfl (lv_at hl 0 rfl) ?_
          replace h := z_bd h
          obtain ⟨r119, hq, h⟩ := h
          refine z_cvi (As := [.int r82]) C0 hml hl.1 hW hS (c_X11_those l D A b r82 u118 hq) mv_X11_53 rfl ⟨Nat.le_of_ble_eq_true rfl, Nat.le_of_ble_eq_true rfl⟩ rfl rfl (Nat.le_of_ble_eq_true rfl) dX11_asks_157 (fun H locs hW hS => ?_)
          clear hq
          replace h := z_bd h
          obtain ⟨r120, hq, h⟩ := h
          refine z_csi (As := [.int r119]) C0 hml hl.1 hW hS (c_X11_bits l D A b r119 u118 hq) ms_X11_57 ⟨Nat.le_of_ble_eq_true rfl, Nat.le_of_ble_eq_true rfl⟩ rfl rfl (Nat.le_of_ble_eq_true rfl) dX11_asks_160 (fun H locs hW hS => ?_)
          clear hq
          refine lv_iconst (v := (1 : Int32)) hx hb dX11_asks_163 (by decide) ?_
          refine lv_icmp_ne (tgt := 171) hx hb dX11_asks_164 (by decide) (fun hc => ?_) (fun hc => ?_)
          · replace h := z_f h hc
            clear hc
            refine lv_iconst (v := (0 : Int32)) hx hb dX11_asks_171 (by decide) ?_
            refine z_puti C0 hW hS fl_X11_202 rfl rfl rfl rfl dX11_asks_172 (fun H locs u121 e1 hW hS => ?_)
            replace h := z_ly h e1
            clear e1
            refine lv_aload_n hx hb dX11_asks_175 rfl (lv_at hl 1 rfl) ?_
            refine z_geti C0 hW fl_X11_25 rfl rfl dX11_asks_176 ?_
            refine lv_topi (fun z122 e1 => ?_)
            replace h := z_ly h e1
            clear e1
            refine lv_istore_n (lv' := [(2, .int z122), (0, .ref (b + 0)), (1, .int a1)]) hx hb dX11_asks_179 rfl hl (by decide) rfl (fun ls hl => ?_)
            refine lv_aload_n hx hb dX11_asks_180 rfl (lv_at hl 1 rfl) ?_
            refine lv_iconst (v := (-1 : Int32)) hx hb dX11_asks_181 (by decide) ?_
            refine z_puti C0 hW hS fl_X11_25 rfl rfl rfl rfl dX11_asks_182 (fun H locs u123 e1 hW hS => ?_)
            replace h := z_ly h e1
            clear e1
            refine lv_aload_n hx hb dX11_asks_185 rfl (lv_at hl 1 rfl) ?_
            refine lv_sipush (v := (305 : Int32)) hx hb dX11_asks_186 (by decide) ?_
            refine z_puti C0 hW hS fl_X11_76 rfl rfl rfl rfl dX11_asks_189 (fun H locs u124 e1 hW hS => ?_)
            replace h := z_ly h e1
            clear e1
            refine lv_aload_n hx hb dX11_asks_192 rfl (lv_at hl 1 rfl) ?_
            refine lv_aload_n hx hb dX11_asks_193 rfl (lv_at hl 1 rfl) ?_
            refine z_getr (o := 1) C0 hW fl_X11_7 rfl rfl rfl dX11_asks_194 ?_
            refine lv_iconst (v := (2 : Int32)) hx hb dX11_asks_197 (by decide) ?_
            refine z_iald (k := 2) (n := 705) C0 hW rfl rfl (by decide) (by decide) dX11_asks_198 ?_
            refine z_puti C0 hW hS fl_X11_82 rfl rfl rfl rfl dX11_asks_199 (fun H locs u125 e1 hW hS => ?_)
            replace h := z_ly h e1
            clear e1
            refine lv_aload_n hx hb dX11_asks_202 rfl (lv_at hl 1 rfl) ?_
            refine lv_iconst (v := (0 : Int32)) hx hb dX11_asks_203 (by decide) ?_
            refine z_puti C0 hW hS fl_X11_79 rfl rfl rfl rfl dX11_asks_204 (fun H locs u126 e1 hW hS => ?_)
            replace h := z_ly h e1
            clear e1
            refine lv_aload_n hx hb dX11_asks_207 rfl (lv_at hl 1 rfl) ?_
            refine lv_iconst (v := (0 : Int32)) hx hb dX11_asks_208 (by decide) ?_
            refine z_puti C0 hW hS fl_X11_157 rfl rfl rfl rfl dX11_asks_209 (fun H locs u127 e1 hW hS => ?_)
            replace h := z_ly h e1
            clear e1
            refine lv_aload_n hx hb dX11_asks_212 rfl (lv_at hl 1 rfl) ?_
            refine lv_iconst (v := (1 : Int32)) hx hb dX11_asks_213 (by decide) ?_
            replace h := z_bd2 h
            obtain ⟨r128, u129, hq, h⟩ := h
            refine z_cvi (As := [.int (bI true)]) C0 hml hl.1 hW hS (c_X11_read l D A b true u127 hq) mv_X11_175 rfl ⟨Nat.le_of_ble_eq_true rfl, Nat.le_of_ble_eq_true rfl⟩ rfl rfl (Nat.le_of_ble_eq_true rfl) dX11_asks_214 (fun H locs hW hS => ?_)
            clear hq
            refine lv_istore_n (lv' := [(3, .int r128), (2, .int z122), (0, .ref (b + 0)), (1, .int a1)]) hx hb dX11_asks_217 rfl hl (by decide) rfl (fun ls hl => ?_)
            refine lv_aload_n hx hb dX11_asks_218 rfl (lv_at hl 2 rfl) ?_
            refine lv_iload_n hx hb dX11_asks_219 rfl (lv_at hl 1 rfl) ?_
            refine z_puti C0 hW hS fl_X11_25 rfl rfl rfl rfl dX11_asks_220 (fun H locs u130 e1 hW hS => ?_)
            replace h := z_ly h e1
            clear e1
            cases h
            exact z_vret C0 hr hlk hW hS dX11_asks_223
          · replace h := z_t h hc
            clear hc
            refine lv_iconst (v := (1 : Int32)) hx hb dX11_asks_167 (by decide) ?_
            refine lv_goto (tgt := 172) hx hb dX11_asks_168 (by decide) ?_
            refine z_puti C0 hW hS fl_X11_202 rfl rfl rfl rfl dX11_asks_172 (fun H locs u131 e1 hW hS => ?_)
            replace h := z_ly h e1
            clear e1
            refine lv_aload_n hx hb dX11_asks_175 rfl (lv_at hl 1 rfl) ?_
            refine z_geti C0 hW fl_X11_25 rfl rfl dX11_asks_176 ?_
            refine lv_topi (fun z132 e1 => ?_)
            replace h := z_ly h e1
            clear e1
            refine lv_istore_n (lv' := [(2, .int z132), (0, .ref (b + 0)), (1, .int a1)]) hx hb dX11_asks_179 rfl hl (by decide) rfl (fun ls hl => ?_)
            refine lv_aload_n hx hb dX11_asks_180 rfl (lv_at hl 1 rfl) ?_
            refine lv_iconst (v := (-1 : Int32)) hx hb dX11_asks_181 (by decide) ?_
            refine z_puti C0 hW hS fl_X11_25 rfl rfl rfl rfl dX11_asks_182 (fun H locs u133 e1 hW hS => ?_)
            replace h := z_ly h e1
            clear e1
            refine lv_aload_n hx hb dX11_asks_185 rfl (lv_at hl 1 rfl) ?_
            refine lv_sipush (v := (305 : Int32)) hx hb dX11_asks_186 (by decide) ?_
            refine z_puti C0 hW hS fl_X11_76 rfl rfl rfl rfl dX11_asks_189 (fun H locs u134 e1 hW hS => ?_)
            replace h := z_ly h e1
            clear e1
            refine lv_aload_n hx hb dX11_asks_192 rfl (lv_at hl 1 rfl) ?_
            refine lv_aload_n hx hb dX11_asks_193 rfl (lv_at hl 1 rfl) ?_
            refine z_getr (o := 1) C0 hW fl_X11_7 rfl rfl rfl dX11_asks_194 ?_
            refine lv_iconst (v := (2 : Int32)) hx hb dX11_asks_197 (by decide) ?_
            refine z_iald (k := 2) (n := 705) C0 hW rfl rfl (by decide) (by decide) dX11_asks_198 ?_
            refine z_puti C0 hW hS fl_X11_82 rfl rfl rfl rfl dX11_asks_199 (fun H locs u135 e1 hW hS => ?_)
            replace h := z_ly h e1
            clear e1
            refine lv_aload_n hx hb dX11_asks_202 rfl (lv_at hl 1 rfl) ?_
            refine lv_iconst (v := (0 : Int32)) hx hb dX11_asks_203 (by decide) ?_
            refine z_puti C0 hW hS fl_X11_79 rfl rfl rfl rfl dX11_asks_204 (fun H locs u136 e1 hW hS => ?_)
            replace h := z_ly h e1
            clear e1
            refine lv_aload_n hx hb dX11_asks_207 rfl (lv_at hl 1 rfl) ?_
            refine lv_iconst (v := (0 : Int32)) hx hb dX11_asks_208 (by decide) ?_
            refine z_puti C0 hW hS fl_X11_157 rfl rfl rfl rfl dX11_asks_209 (fun H locs u137 e1 hW hS => ?_)
            replace h := z_ly h e1
            clear e1
            refine lv_aload_n hx hb dX11_asks_212 rfl (lv_at hl 1 rfl) ?_
            refine lv_iconst (v := (1 : Int32)) hx hb dX11_asks_213 (by decide) ?_
            replace h := z_bd2 h
            obtain ⟨r138, u139, hq, h⟩ := h
            refine z_cvi (As := [.int (bI true)]) C0 hml hl.1 hW hS (c_X11_read l D A b true u137 hq) mv_X11_175 rfl ⟨Nat.le_of_ble_eq_true rfl, Nat.le_of_ble_eq_true rfl⟩ rfl rfl (Nat.le_of_ble_eq_true rfl) dX11_asks_214 (fun H locs hW hS => ?_)
            clear hq
            refine lv_istore_n (lv' := [(3, .int r138), (2, .int z132), (0, .ref (b + 0)), (1, .int a1)]) hx hb dX11_asks_217 rfl hl (by decide) rfl (fun ls hl => ?_)
            refine lv_aload_n hx hb dX11_asks_218 rfl (lv_at hl 2 rfl) ?_
            refine lv_iload_n hx hb dX11_asks_219 rfl (lv_at hl 1 rfl) ?_
            refine z_puti C0 hW hS fl_X11_25 rfl rfl rfl rfl dX11_asks_220 (fun H locs u140 e1 hW hS => ?_)
            replace h := z_ly h e1
            clear e1
            cases h
            exact z_vret C0 hr hlk hW hS dX11_asks_223
  · replace h := z_f h hc
    clear hc
    cases h
    exact z_vret C0 hr hlk hW hS dX11_asks_20
def f_X11_fartherNow  (u : zU) : Option (Int32 × zU) :=
  (f_X11_governorNow u).bind (fun r1 => (f_X11_asks r1 u).bind (fun u2 => some (u2 0 18, u2)))
theorem f_X11_fartherNow_e  (u : zU) : f_X11_fartherNow u = (f_X11_governorNow u).bind (fun r1 => (f_X11_asks r1 u).bind (fun u2 => some (u2 0 18, u2))) := rfl
set_option maxRecDepth 100000 in
set_option maxHeartbeats 4000000 in
theorem c_X11_fartherNow (l : Launch) (D : zD) (A : Nat → Prop) (b : Nat)  (u : zU) {v : Int32} {u' : zU} (h : f_X11_fartherNow u = some (v, u')) : z_M l D A b gM yX11_fartherNow cX11_fartherNow 1 (some .int) 42 1351 [.ref (b + 0)] u (some (.int v)) u' := by
  refine z_enter (by decide) (Nat.le_of_ble_eq_true rfl) ?_
  intro p e s m below meth c ls C0 hr hml hlk hW hS hl
  have hl : lv_has ls 1 [(0, .ref (b + 0))] := hl
  have hx := C0.1
  have hb := C0.2.1
  rw [f_X11_fartherNow_e] at h
  refine lv_aload_n hx hb dX11_fartherNow_0 rfl (lv_at hl 0 rfl) ?_
  refine lv_aload_n hx hb dX11_fartherNow_1 rfl (lv_at hl 0 rfl) ?_
  replace h := z_bd h
  obtain ⟨r1, hq, h⟩ := h
  refine z_cvi (As := []) C0 hml hl.1 hW hS (c_X11_governorNow l D A b u hq) mv_X11_249 rfl ⟨Nat.le_of_ble_eq_true rfl, Nat.le_of_ble_eq_true rfl⟩ rfl rfl (Nat.le_of_ble_eq_true rfl) dX11_fartherNow_2 (fun H locs hW hS => ?_)
  clear hq
  replace h := z_bd h
  obtain ⟨u2, hq, h⟩ := h
  refine z_cvv (As := [.int r1]) C0 hml hl.1 hW hS (c_X11_asks l D A b r1 u hq) mv_X11_252 rfl ⟨Nat.le_of_ble_eq_true rfl, Nat.le_of_ble_eq_true rfl⟩ rfl rfl (Nat.le_of_ble_eq_true rfl) dX11_fartherNow_5 (fun H locs hW hS => ?_)
  clear hq
  refine lv_aload_n hx hb dX11_fartherNow_8 rfl (lv_at hl 0 rfl) ?_
  refine z_geti C0 hW fl_X11_238 rfl rfl dX11_fartherNow_9 ?_
  cases h
  exact z_iret C0 hr hlk hW hS dX11_fartherNow_12
def f_X11_owesBy (a1 : Int32) (a2 : Int32) (u : zU) : Option (Int32 × zU) :=
  (f_X11_waits a1 u).bind (fun t1 => if t1 = true then (some ((0 : Int32), u)) else ((f_X11_asks a1 u).bind (fun u2 => z_let (f_X11_greater (0 : Int32) (a2 + (u2 0 19)) u2) (fun r3 => some (r3, u2)))))
theorem f_X11_owesBy_e (a1 : Int32) (a2 : Int32) (u : zU) : f_X11_owesBy a1 a2 u = (f_X11_waits a1 u).bind (fun t1 => if t1 = true then (some ((0 : Int32), u)) else ((f_X11_asks a1 u).bind (fun u2 => z_let (f_X11_greater (0 : Int32) (a2 + (u2 0 19)) u2) (fun r3 => some (r3, u2))))) := rfl
set_option maxRecDepth 100000 in
set_option maxHeartbeats 4000000 in
theorem c_X11_owesBy (l : Launch) (D : zD) (A : Nat → Prop) (b : Nat) (a1 : Int32) (a2 : Int32) (u : zU) {v : Int32} {u' : zU} (h : f_X11_owesBy a1 a2 u = some (v, u')) : z_M l D A b gM yX11_owesBy cX11_owesBy 3 (some .int) 42 1351 [.ref (b + 0), .int a1, .int a2] u (some (.int v)) u' := by
  refine z_enter (by decide) (Nat.le_of_ble_eq_true rfl) ?_
  intro p e s m below meth c ls C0 hr hml hlk hW hS hl
  have hl : lv_has ls 3 [(0, .ref (b + 0)), (1, .int a1), (2, .int a2)] := hl
  have hx := C0.1
  have hb := C0.2.1
  rw [f_X11_owesBy_e] at h
  refine lv_aload_n hx hb dX11_owesBy_0 rfl (lv_at hl 0 rfl) ?_
  refine lv_iload_n hx hb dX11_owesBy_1 rfl (lv_at hl 1 rfl) ?_
  replace h := z_bd h
  obtain ⟨t1, hq, h⟩ := h
  refine z_cvi (As := [.int a1]) C0 hml hl.1 hW hS (c_X11_waits l D A b a1 u hq) mv_X11_255 rfl ⟨Nat.le_of_ble_eq_true rfl, Nat.le_of_ble_eq_true rfl⟩ rfl rfl (Nat.le_of_ble_eq_true rfl) dX11_owesBy_2 (fun H locs hW hS => ?_)
  clear hq
  refine z_ifeqZ C0 (tgt := 10) dX11_owesBy_5 (by decide) (fun hc => ?_) (fun hc => ?_)
  · replace h := z_ff h hc
    clear hc
    refine lv_aload_n hx hb dX11_owesBy_10 rfl (lv_at hl 0 rfl) ?_
    refine lv_iload_n hx hb dX11_owesBy_11 rfl (lv_at hl 1 rfl) ?_
    replace h := z_bd h
    obtain ⟨u2, hq, h⟩ := h
    refine z_cvv (As := [.int a1]) C0 hml hl.1 hW hS (c_X11_asks l D A b a1 u hq) mv_X11_252 rfl ⟨Nat.le_of_ble_eq_true rfl, Nat.le_of_ble_eq_true rfl⟩ rfl rfl (Nat.le_of_ble_eq_true rfl) dX11_owesBy_12 (fun H locs hW hS => ?_)
    clear hq
    refine lv_iconst (v := (0 : Int32)) hx hb dX11_owesBy_15 (by decide) ?_
    refine lv_iload_n hx hb dX11_owesBy_16 rfl (lv_at hl 2 rfl) ?_
    refine lv_aload_n hx hb dX11_owesBy_17 rfl (lv_at hl 0 rfl) ?_
    refine z_geti C0 hW fl_X11_241 rfl rfl dX11_owesBy_18 ?_
    refine lv_iadd hx hb dX11_owesBy_21 ?_
    obtain ⟨r3, hq⟩ : ∃ y, f_X11_greater (0 : Int32) (a2 + (u2 0 19)) u2 = y := ⟨_, rfl⟩
    replace h := z_lz h hq
    refine z_csi (As := [.int (0 : Int32), .int (a2 + (u2 0 19))]) C0 hml hl.1 hW hS (c_X11_greater l D A b (0 : Int32) (a2 + (u2 0 19)) u2 hq) ms_X11_258 ⟨Nat.le_of_ble_eq_true rfl, Nat.le_of_ble_eq_true rfl⟩ rfl rfl (Nat.le_of_ble_eq_true rfl) dX11_owesBy_22 (fun H locs hW hS => ?_)
    clear hq
    cases h
    exact z_iret C0 hr hlk hW hS dX11_owesBy_25
  · replace h := z_t h hc
    clear hc
    refine lv_iconst (v := (0 : Int32)) hx hb dX11_owesBy_8 (by decide) ?_
    cases h
    exact z_iret C0 hr hlk hW hS dX11_owesBy_9
def f_X11_collects_11 : Nat → Int32 → Int32 → Int32 → zU → Option (Int32 × zU)
  | 0, _, _, _, _ => none
  | n + 1, x2, x3, x4, u =>
    if (u 1 3) ≤ x4 then (some (x3, u)) else (z_let (f_X11_isOf x2 x4 u) (fun t2 => if t2 = true then ((f_X11_of x4 (2 : Int32) u).bind (fun r3 => z_b2 (f_X11_owesBy x4 (u 1 5) u) (fun r4 u5 => z_let (f_X11_lesser r3 r4 u5) (fun r6 => z_let (x3 + r6) (fun z7 => (f_X11_of x4 (2 : Int32) u5).bind (fun r8 => (f_X11_put x4 (2 : Int32) (r8 - r6) u5).bind (fun u9 => z_let (f_X11_lesser (9999 : Int32) ((u9 1 6) + r6) u9) (fun r10 => z_let (z_up u9 1 6 r10) (fun u11 => (f_X11_of x4 (2 : Int32) u11).bind (fun r12 => if r12 = 0 then ((f_X11_queues x4 u11).bind (fun u13 => f_X11_collects_11 n x2 z7 (x4 + (1 : Int32)) u13)) else (f_X11_collects_11 n x2 z7 (x4 + (1 : Int32)) u11))))))))))) else (f_X11_collects_11 n x2 x3 (x4 + (1 : Int32)) u)))
theorem f_X11_collects_11_s (n : Nat) (x2 : Int32) (x3 : Int32) (x4 : Int32) (u : zU) : f_X11_collects_11 (n + 1) x2 x3 x4 u = if (u 1 3) ≤ x4 then (some (x3, u)) else (z_let (f_X11_isOf x2 x4 u) (fun t2 => if t2 = true then ((f_X11_of x4 (2 : Int32) u).bind (fun r3 => z_b2 (f_X11_owesBy x4 (u 1 5) u) (fun r4 u5 => z_let (f_X11_lesser r3 r4 u5) (fun r6 => z_let (x3 + r6) (fun z7 => (f_X11_of x4 (2 : Int32) u5).bind (fun r8 => (f_X11_put x4 (2 : Int32) (r8 - r6) u5).bind (fun u9 => z_let (f_X11_lesser (9999 : Int32) ((u9 1 6) + r6) u9) (fun r10 => z_let (z_up u9 1 6 r10) (fun u11 => (f_X11_of x4 (2 : Int32) u11).bind (fun r12 => if r12 = 0 then ((f_X11_queues x4 u11).bind (fun u13 => f_X11_collects_11 n x2 z7 (x4 + (1 : Int32)) u13)) else (f_X11_collects_11 n x2 z7 (x4 + (1 : Int32)) u11))))))))))) else (f_X11_collects_11 n x2 x3 (x4 + (1 : Int32)) u))) := rfl
def f_X11_collects (a1 : Int32) (u : zU) : Option (Int32 × zU) :=
  (f_X11_those a1 u).bind (fun r1 => f_X11_collects_11 5000 r1 (0 : Int32) (0 : Int32) u)
set_option maxRecDepth 100000 in
set_option maxHeartbeats 4000000 in
theorem l_X11_collects_11 {l : Launch} {D : zD} {A : Nat → Prop} {b : Nat} {p : Program} {e : Env} {s : State} {m : MethodId} {args : Array Value} {below : List Frame} {meth : Method} {c : Code} {v : Int32} {u' : zU} (C0 : z_C p c cX11_collects s m args yX11_collects.cls D A) (hr : meth.sig.returnType = (some .int)) (hml : c.maxLocals = 6) (hlk : meth.locks = false) : ∀ (n : Nat) (x2 : Int32) (x3 : Int32) (x4 : Int32) (u : zU) (H : Heap) (locs : List Loc) (ls : Array Slot), f_X11_collects_11 n x2 x3 x4 u = some (v, u') → z_W D A b gM u H → va_S A s.heap H locs → lv_has ls 6 [(0, .ref (b + 0)), (2, .int x2), (3, .int x3), (4, .int x4)] → W p l e { frames := 43, cells := 0, slots := 0, locals := 1373 } s m args below meth c H locs 0 0 (z_End D A b gM below args s (some (.int v)) u') (F0 m 11 ls []) := by
  have hx := C0.1
  have hb := C0.2.1
  intro n
  induction n with
  | zero => intro x2 x3 x4 u H locs ls h hW hS hl; cases h
  | succ n ih =>
    intro x2 x3 x4 u H locs ls h hW hS hl
    rw [f_X11_collects_11_s] at h
    refine lv_iload hx hb dX11_collects_11 (lv_at hl 3 rfl) ?_
    refine lv_aload_n hx hb dX11_collects_13 rfl (lv_at hl 0 rfl) ?_
    refine z_getr (o := 1) C0 hW fl_X11_7 rfl rfl rfl dX11_collects_14 ?_
    refine lv_iconst (v := (3 : Int32)) hx hb dX11_collects_17 (by decide) ?_
    refine z_iald (k := 3) (n := 705) C0 hW rfl rfl (by decide) (by decide) dX11_collects_18 ?_
    refine lv_icmp_ge (tgt := 125) hx hb dX11_collects_19 (by decide) (fun hc => ?_) (fun hc => ?_)
    · replace h := z_t h hc
      clear hc
      refine lv_iload_n hx hb dX11_collects_125 rfl (lv_at hl 2 rfl) ?_
      cases h
      exact z_iret C0 hr hlk hW hS dX11_collects_126
    · replace h := z_f h hc
      clear hc
      refine lv_iload_n hx hb dX11_collects_22 rfl (lv_at hl 1 rfl) ?_
      refine lv_iload hx hb dX11_collects_23 (lv_at hl 3 rfl) ?_
      obtain ⟨t2, hq⟩ : ∃ y, f_X11_isOf x2 x4 u = y := ⟨_, rfl⟩
      replace h := z_lz h hq
      refine z_csi (As := [.int x2, .int x4]) C0 hml hl.1 hW hS (c_X11_isOf l D A b x2 x4 u hq) ms_X11_262 ⟨Nat.le_of_ble_eq_true rfl, Nat.le_of_ble_eq_true rfl⟩ rfl rfl (Nat.le_of_ble_eq_true rfl) dX11_collects_25 (fun H locs hW hS => ?_)
      clear hq
      refine z_ifneZ C0 (tgt := 34) dX11_collects_28 (by decide) (fun hc => ?_) (fun hc => ?_)
      · replace h := z_t h hc
        clear hc
        refine lv_aload_n hx hb dX11_collects_34 rfl (lv_at hl 0 rfl) ?_
        refine lv_iload hx hb dX11_collects_35 (lv_at hl 3 rfl) ?_
        refine lv_iconst (v := (2 : Int32)) hx hb dX11_collects_37 (by decide) ?_
        replace h := z_bd h
        obtain ⟨r3, hq, h⟩ := h
        refine z_cvi (As := [.int x4, .int (2 : Int32)]) C0 hml hl.1 hW hS (c_X11_of l D A b x4 (2 : Int32) u hq) mv_X11_49 rfl ⟨Nat.le_of_ble_eq_true rfl, Nat.le_of_ble_eq_true rfl⟩ rfl rfl (Nat.le_of_ble_eq_true rfl) dX11_collects_38 (fun H locs hW hS => ?_)
        clear hq
        refine lv_aload_n hx hb dX11_collects_41 rfl (lv_at hl 0 rfl) ?_
        refine lv_iload hx hb dX11_collects_42 (lv_at hl 3 rfl) ?_
        refine lv_aload_n hx hb dX11_collects_44 rfl (lv_at hl 0 rfl) ?_
        refine z_getr (o := 1) C0 hW fl_X11_7 rfl rfl rfl dX11_collects_45 ?_
        refine lv_iconst (v := (5 : Int32)) hx hb dX11_collects_48 (by decide) ?_
        refine z_iald (k := 5) (n := 705) C0 hW rfl rfl (by decide) (by decide) dX11_collects_49 ?_
        replace h := z_bd2 h
        obtain ⟨r4, u5, hq, h⟩ := h
        refine z_cvi (As := [.int x4, .int (u 1 5)]) C0 hml hl.1 hW hS (c_X11_owesBy l D A b x4 (u 1 5) u hq) mv_X11_266 rfl ⟨Nat.le_of_ble_eq_true rfl, Nat.le_of_ble_eq_true rfl⟩ rfl rfl (Nat.le_of_ble_eq_true rfl) dX11_collects_50 (fun H locs hW hS => ?_)
        clear hq
        obtain ⟨r6, hq⟩ : ∃ y, f_X11_lesser r3 r4 u5 = y := ⟨_, rfl⟩
        replace h := z_lz h hq
        refine z_csi (As := [.int r3, .int r4]) C0 hml hl.1 hW hS (c_X11_lesser l D A b r3 r4 u5 hq) ms_X11_63 ⟨Nat.le_of_ble_eq_true rfl, Nat.le_of_ble_eq_true rfl⟩ rfl rfl (Nat.le_of_ble_eq_true rfl) dX11_collects_53 (fun H locs hW hS => ?_)
        clear hq
        refine lv_istore (lv' := [(5, .int r6), (0, .ref (b + 0)), (2, .int x2), (3, .int x3), (4, .int x4)]) hx hb dX11_collects_56 hl (by decide) rfl (fun ls hl => ?_)
        refine lv_iload_n hx hb dX11_collects_58 rfl (lv_at hl 3 rfl) ?_
        refine lv_iload hx hb dX11_collects_59 (lv_at hl 0 rfl) ?_
        refine lv_iadd hx hb dX11_collects_61 ?_
        refine lv_topi (fun z7 e1 => ?_)
        replace h := z_ly h e1
        clear e1
        refine lv_istore_n (lv' := [(3, .int z7), (5, .int r6), (0, .ref (b + 0)), (2, .int x2), (4, .int x4)]) hx hb dX11_collects_62 rfl hl (by decide) rfl (fun ls hl => ?_)
        refine lv_aload_n hx hb dX11_collects_63 rfl (lv_at hl 2 rfl) ?_
        refine lv_iload hx hb dX11_collects_64 (lv_at hl 4 rfl) ?_
        refine lv_iconst (v := (2 : Int32)) hx hb dX11_collects_66 (by decide) ?_
        refine lv_aload_n hx hb dX11_collects_67 rfl (lv_at hl 2 rfl) ?_
        refine lv_iload hx hb dX11_collects_68 (lv_at hl 4 rfl) ?_
        refine lv_iconst (v := (2 : Int32)) hx hb dX11_collects_70 (by decide) ?_
        replace h := z_bd h
        obtain ⟨r8, hq, h⟩ := h
        refine z_cvi (As := [.int x4, .int (2 : Int32)]) C0 hml hl.1 hW hS (c_X11_of l D A b x4 (2 : Int32) u5 hq) mv_X11_49 rfl ⟨Nat.le_of_ble_eq_true rfl, Nat.le_of_ble_eq_true rfl⟩ rfl rfl (Nat.le_of_ble_eq_true rfl) dX11_collects_71 (fun H locs hW hS => ?_)
        clear hq
        refine lv_iload hx hb dX11_collects_74 (lv_at hl 1 rfl) ?_
        refine lv_isub hx hb dX11_collects_76 ?_
        replace h := z_bd h
        obtain ⟨u9, hq, h⟩ := h
        refine z_cvv (As := [.int x4, .int (2 : Int32), .int (r8 - r6)]) C0 hml hl.1 hW hS (c_X11_put l D A b x4 (2 : Int32) (r8 - r6) u5 hq) mv_X11_66 rfl ⟨Nat.le_of_ble_eq_true rfl, Nat.le_of_ble_eq_true rfl⟩ rfl rfl (Nat.le_of_ble_eq_true rfl) dX11_collects_77 (fun H locs hW hS => ?_)
        clear hq
        refine lv_aload_n hx hb dX11_collects_80 rfl (lv_at hl 2 rfl) ?_
        refine z_getr (o := 1) C0 hW fl_X11_7 rfl rfl rfl dX11_collects_81 ?_
        refine lv_bipush (v := (6 : Int32)) hx hb dX11_collects_84 (by decide) ?_
        refine lv_sipush (v := (9999 : Int32)) hx hb dX11_collects_86 (by decide) ?_
        refine lv_aload_n hx hb dX11_collects_89 rfl (lv_at hl 2 rfl) ?_
        refine z_getr (o := 1) C0 hW fl_X11_7 rfl rfl rfl dX11_collects_90 ?_
        refine lv_bipush (v := (6 : Int32)) hx hb dX11_collects_93 (by decide) ?_
        refine z_iald (k := 6) (n := 705) C0 hW rfl rfl (by decide) (by decide) dX11_collects_95 ?_
        refine lv_iload hx hb dX11_collects_96 (lv_at hl 1 rfl) ?_
        refine lv_iadd hx hb dX11_collects_98 ?_
        obtain ⟨r10, hq⟩ : ∃ y, f_X11_lesser (9999 : Int32) ((u9 1 6) + r6) u9 = y := ⟨_, rfl⟩
        replace h := z_lz h hq
        refine z_csi (As := [.int (9999 : Int32), .int ((u9 1 6) + r6)]) C0 hml hl.1 hW hS (c_X11_lesser l D A b (9999 : Int32) ((u9 1 6) + r6) u9 hq) ms_X11_63 ⟨Nat.le_of_ble_eq_true rfl, Nat.le_of_ble_eq_true rfl⟩ rfl rfl (Nat.le_of_ble_eq_true rfl) dX11_collects_99 (fun H locs hW hS => ?_)
        clear hq
        refine z_iast (k := 6) (n := 705) C0 hW hS rfl rfl (by decide) (by decide) dX11_collects_102 (fun H locs u11 e1 hW hS => ?_)
        replace h := z_ly h e1
        clear e1
        refine lv_aload_n hx hb dX11_collects_103 rfl (lv_at hl 2 rfl) ?_
        refine lv_iload hx hb dX11_collects_104 (lv_at hl 4 rfl) ?_
        refine lv_iconst (v := (2 : Int32)) hx hb dX11_collects_106 (by decide) ?_
        replace h := z_bd h
        obtain ⟨r12, hq, h⟩ := h
        refine z_cvi (As := [.int x4, .int (2 : Int32)]) C0 hml hl.1 hW hS (c_X11_of l D A b x4 (2 : Int32) u11 hq) mv_X11_49 rfl ⟨Nat.le_of_ble_eq_true rfl, Nat.le_of_ble_eq_true rfl⟩ rfl rfl (Nat.le_of_ble_eq_true rfl) dX11_collects_107 (fun H locs hW hS => ?_)
        clear hq
        refine lv_if_ne (tgt := 119) hx hb dX11_collects_110 (by decide) (fun hc => ?_) (fun hc => ?_)
        · replace h := z_f h hc
          clear hc
          refine lv_iinc (v := x4 + (1 : Int32)) (lv' := [(4, .int (x4 + (1 : Int32))), (3, .int z7), (5, .int r6), (0, .ref (b + 0)), (2, .int x2)]) hx hb dX11_collects_119 hl (k := 4) rfl rfl (by decide) rfl (fun ls hl => ?_)
          refine lv_goto (tgt := 11) hx hb dX11_collects_122 (by decide) ?_
          exact ih _ _ _ _ _ _ _ h hW hS (lv_sub hl [3, 4, 1, 0] rfl)
        · replace h := z_t h hc
          clear hc
          refine lv_aload_n hx hb dX11_collects_113 rfl (lv_at hl 2 rfl) ?_
          refine lv_iload hx hb dX11_collects_114 (lv_at hl 4 rfl) ?_
          replace h := z_bd h
          obtain ⟨u13, hq, h⟩ := h
          refine z_cvv (As := [.int x4]) C0 hml hl.1 hW hS (c_X11_queues l D A b x4 u11 hq) mv_X11_131 rfl ⟨Nat.le_of_ble_eq_true rfl, Nat.le_of_ble_eq_true rfl⟩ rfl rfl (Nat.le_of_ble_eq_true rfl) dX11_collects_116 (fun H locs hW hS => ?_)
          clear hq
          refine lv_iinc (v := x4 + (1 : Int32)) (lv' := [(4, .int (x4 + (1 : Int32))), (3, .int z7), (5, .int r6), (0, .ref (b + 0)), (2, .int x2)]) hx hb dX11_collects_119 hl (k := 4) rfl rfl (by decide) rfl (fun ls hl => ?_)
          refine lv_goto (tgt := 11) hx hb dX11_collects_122 (by decide) ?_
          exact ih _ _ _ _ _ _ _ h hW hS (lv_sub hl [3, 4, 1, 0] rfl)
      · replace h := z_ff h hc
        clear hc
        refine lv_goto (tgt := 119) hx hb dX11_collects_31 (by decide) ?_
        refine lv_iinc (v := x4 + (1 : Int32)) (lv' := [(4, .int (x4 + (1 : Int32))), (0, .ref (b + 0)), (2, .int x2), (3, .int x3)]) hx hb dX11_collects_119 hl (k := 3) rfl rfl (by decide) rfl (fun ls hl => ?_)
        refine lv_goto (tgt := 11) hx hb dX11_collects_122 (by decide) ?_
        exact ih _ _ _ _ _ _ _ h hW hS (lv_sub hl [1, 2, 3, 0] rfl)
theorem f_X11_collects_e (a1 : Int32) (u : zU) : f_X11_collects a1 u = (f_X11_those a1 u).bind (fun r1 => f_X11_collects_11 5000 r1 (0 : Int32) (0 : Int32) u) := rfl
set_option maxRecDepth 100000 in
set_option maxHeartbeats 4000000 in
theorem c_X11_collects (l : Launch) (D : zD) (A : Nat → Prop) (b : Nat) (a1 : Int32) (u : zU) {v : Int32} {u' : zU} (h : f_X11_collects a1 u = some (v, u')) : z_M l D A b gM yX11_collects cX11_collects 6 (some .int) 43 1373 [.ref (b + 0), .int a1] u (some (.int v)) u' := by
  refine z_enter (by decide) (Nat.le_of_ble_eq_true rfl) ?_
  intro p e s m below meth c ls C0 hr hml hlk hW hS hl
  have hl : lv_has ls 6 [(0, .ref (b + 0)), (1, .int a1)] := hl
  have hx := C0.1
  have hb := C0.2.1
  rw [f_X11_collects_e] at h
  refine lv_aload_n hx hb dX11_collects_0 rfl (lv_at hl 0 rfl) ?_
  refine lv_iload_n hx hb dX11_collects_1 rfl (lv_at hl 1 rfl) ?_
  replace h := z_bd h
  obtain ⟨r1, hq, h⟩ := h
  refine z_cvi (As := [.int a1]) C0 hml hl.1 hW hS (c_X11_those l D A b a1 u hq) mv_X11_53 rfl ⟨Nat.le_of_ble_eq_true rfl, Nat.le_of_ble_eq_true rfl⟩ rfl rfl (Nat.le_of_ble_eq_true rfl) dX11_collects_2 (fun H locs hW hS => ?_)
  clear hq
  refine lv_istore_n (lv' := [(2, .int r1), (0, .ref (b + 0)), (1, .int a1)]) hx hb dX11_collects_5 rfl hl (by decide) rfl (fun ls hl => ?_)
  refine lv_iconst (v := (0 : Int32)) hx hb dX11_collects_6 (by decide) ?_
  refine lv_istore_n (lv' := [(3, .int (0 : Int32)), (2, .int r1), (0, .ref (b + 0)), (1, .int a1)]) hx hb dX11_collects_7 rfl hl (by decide) rfl (fun ls hl => ?_)
  refine lv_iconst (v := (0 : Int32)) hx hb dX11_collects_8 (by decide) ?_
  refine lv_istore (lv' := [(4, .int (0 : Int32)), (3, .int (0 : Int32)), (2, .int r1), (0, .ref (b + 0)), (1, .int a1)]) hx hb dX11_collects_9 hl (by decide) rfl (fun ls hl => ?_)
  exact l_X11_collects_11 C0 hr hml hlk 5000 _ _ _ _ _ _ _ h hW hS (lv_sub hl [3, 2, 1, 0] rfl)
def f_X11_goes_116 (K : Int32 → Int32 → Int32 → Int32 → zU → Option (Int32 × zU)) : Nat → Int32 → Int32 → Int32 → Int32 → Int32 → Int32 → Int32 → Int32 → zU → Option (Int32 × zU)
  | 0, _, _, _, _, _, _, _, _, _ => none
  | n + 1, x1, x2, x3, x4, x6, x7, x8, x9, u =>
    if x9 = (-1 : Int32) then (if x2 = (-1 : Int32) then ((f_X11_blows u).bind (fun u14 => (f_X11_logs x6 x8 u14).bind (fun u15 => z_let (f_X11_lesser (9999 : Int32) ((u15 1 9) + (1 : Int32)) u15) (fun r16 => z_let (z_up u15 1 9 r16) (fun u17 => z_let (x3 + x8) (fun z18 => K x1 x2 z18 (x4 + (1 : Int32)) u17)))))) else ((f_X11_logs x6 x8 u).bind (fun u10 => z_let (f_X11_lesser (9999 : Int32) ((u10 1 9) + (1 : Int32)) u10) (fun r11 => z_let (z_up u10 1 9 r11) (fun u12 => z_let (x3 + x8) (fun z13 => K x1 x2 z13 (x4 + (1 : Int32)) u12)))))) else ((f_X11_hasRoom x7 u).bind (fun t19 => if t19 = true then ((f_X11_gets x9 x7 u).bind (fun u29 => (f_X11_firstWaiting u29).bind (fun r30 => f_X11_goes_116 K n x1 x2 x3 x4 x6 x7 x8 r30 u29))) else (if x2 = (-1 : Int32) then ((f_X11_blows u).bind (fun u24 => (f_X11_logs x6 x8 u24).bind (fun u25 => z_let (f_X11_lesser (9999 : Int32) ((u25 1 9) + (1 : Int32)) u25) (fun r26 => z_let (z_up u25 1 9 r26) (fun u27 => z_let (x3 + x8) (fun z28 => K x1 x2 z28 (x4 + (1 : Int32)) u27)))))) else ((f_X11_logs x6 x8 u).bind (fun u20 => z_let (f_X11_lesser (9999 : Int32) ((u20 1 9) + (1 : Int32)) u20) (fun r21 => z_let (z_up u20 1 9 r21) (fun u22 => z_let (x3 + x8) (fun z23 => K x1 x2 z23 (x4 + (1 : Int32)) u22))))))))
theorem f_X11_goes_116_s (K : Int32 → Int32 → Int32 → Int32 → zU → Option (Int32 × zU)) (n : Nat) (x1 : Int32) (x2 : Int32) (x3 : Int32) (x4 : Int32) (x6 : Int32) (x7 : Int32) (x8 : Int32) (x9 : Int32) (u : zU) : f_X11_goes_116 K (n + 1) x1 x2 x3 x4 x6 x7 x8 x9 u = if x9 = (-1 : Int32) then (if x2 = (-1 : Int32) then ((f_X11_blows u).bind (fun u14 => (f_X11_logs x6 x8 u14).bind (fun u15 => z_let (f_X11_lesser (9999 : Int32) ((u15 1 9) + (1 : Int32)) u15) (fun r16 => z_let (z_up u15 1 9 r16) (fun u17 => z_let (x3 + x8) (fun z18 => K x1 x2 z18 (x4 + (1 : Int32)) u17)))))) else ((f_X11_logs x6 x8 u).bind (fun u10 => z_let (f_X11_lesser (9999 : Int32) ((u10 1 9) + (1 : Int32)) u10) (fun r11 => z_let (z_up u10 1 9 r11) (fun u12 => z_let (x3 + x8) (fun z13 => K x1 x2 z13 (x4 + (1 : Int32)) u12)))))) else ((f_X11_hasRoom x7 u).bind (fun t19 => if t19 = true then ((f_X11_gets x9 x7 u).bind (fun u29 => (f_X11_firstWaiting u29).bind (fun r30 => f_X11_goes_116 K n x1 x2 x3 x4 x6 x7 x8 r30 u29))) else (if x2 = (-1 : Int32) then ((f_X11_blows u).bind (fun u24 => (f_X11_logs x6 x8 u24).bind (fun u25 => z_let (f_X11_lesser (9999 : Int32) ((u25 1 9) + (1 : Int32)) u25) (fun r26 => z_let (z_up u25 1 9 r26) (fun u27 => z_let (x3 + x8) (fun z28 => K x1 x2 z28 (x4 + (1 : Int32)) u27)))))) else ((f_X11_logs x6 x8 u).bind (fun u20 => z_let (f_X11_lesser (9999 : Int32) ((u20 1 9) + (1 : Int32)) u20) (fun r21 => z_let (z_up u20 1 9 r21) (fun u22 => z_let (x3 + x8) (fun z23 => K x1 x2 z23 (x4 + (1 : Int32)) u22)))))))) := rfl
def f_X11_goes_5 : Nat → Int32 → Int32 → Int32 → Int32 → zU → Option (Int32 × zU)
  | 0, _, _, _, _, _ => none
  | n + 1, x1, x2, x3, x4, u =>
    if x1 ≤ x4 then (some (x3, u)) else (z_b2 (f_X11_fartherNow u) (fun r1 u2 => if x2 = (-1 : Int32) then (z_b2 (f_X11_draw (u2 1 7) u2) (fun r39 u40 => z_let ((r1 + r39) + (1 : Int32)) (fun z41 => z_let (z_up u40 1 4 (z_rem ((u40 1 4) + z41) (8 : Int32))) (fun u42 => (f_X11_governorNow u42).bind (fun r43 => if r43 = (-1 : Int32) then (z_let (z_rem ((u42 1 4) + (4 : Int32)) (8 : Int32)) (fun z44 => z_b2 (f_X11_collects z44 u42) (fun r45 u46 => (f_X11_firstWaiting u46).bind (fun r47 => f_X11_goes_116 (fun k1 k2 k3 k4 u => f_X11_goes_5 n k1 k2 k3 k4 u) 5000 x1 x2 x3 x4 r43 z44 r45 r47 u46)))) else ((f_X11_of r43 (3 : Int32) u42).bind (fun r48 => z_let ((13 : Int32) + r48) (fun z49 => if z_in z49 705 = true then (z_let (u42 1 (z49).toNatClampNeg) (fun z50 => if z_in z49 705 = true then (z_let (z_up u42 1 (z49).toNatClampNeg (z50 + (1 : Int32))) (fun u51 => z_let (z_rem ((u51 1 4) + (4 : Int32)) (8 : Int32)) (fun z52 => z_b2 (f_X11_collects z52 u51) (fun r53 u54 => (f_X11_firstWaiting u54).bind (fun r55 => f_X11_goes_116 (fun k1 k2 k3 k4 u => f_X11_goes_5 n k1 k2 k3 k4 u) 5000 x1 x2 x3 x4 r43 z52 r53 r55 u54))))) else none)) else none)))))))) else (z_let ((r1 + x2) + (1 : Int32)) (fun z3 => z_let (z_up u2 1 4 (z_rem ((u2 1 4) + z3) (8 : Int32))) (fun u4 => (f_X11_governorNow u4).bind (fun r5 => if r5 = (-1 : Int32) then (z_let (z_rem ((u4 1 4) + (4 : Int32)) (8 : Int32)) (fun z6 => z_b2 (f_X11_collects z6 u4) (fun r7 u8 => (f_X11_firstWaiting u8).bind (fun r9 => f_X11_goes_116 (fun k1 k2 k3 k4 u => f_X11_goes_5 n k1 k2 k3 k4 u) 5000 x1 x2 x3 x4 r5 z6 r7 r9 u8)))) else ((f_X11_of r5 (3 : Int32) u4).bind (fun r31 => z_let ((13 : Int32) + r31) (fun z32 => if z_in z32 705 = true then (z_let (u4 1 (z32).toNatClampNeg) (fun z33 => if z_in z32 705 = true then (z_let (z_up u4 1 (z32).toNatClampNeg (z33 + (1 : Int32))) (fun u34 => z_let (z_rem ((u34 1 4) + (4 : Int32)) (8 : Int32)) (fun z35 => z_b2 (f_X11_collects z35 u34) (fun r36 u37 => (f_X11_firstWaiting u37).bind (fun r38 => f_X11_goes_116 (fun k1 k2 k3 k4 u => f_X11_goes_5 n k1 k2 k3 k4 u) 5000 x1 x2 x3 x4 r5 z35 r36 r38 u37))))) else none)) else none)))))))))
theorem f_X11_goes_5_s (n : Nat) (x1 : Int32) (x2 : Int32) (x3 : Int32) (x4 : Int32) (u : zU) : f_X11_goes_5 (n + 1) x1 x2 x3 x4 u = if x1 ≤ x4 then (some (x3, u)) else (z_b2 (f_X11_fartherNow u) (fun r1 u2 => if x2 = (-1 : Int32) then (z_b2 (f_X11_draw (u2 1 7) u2) (fun r39 u40 => z_let ((r1 + r39) + (1 : Int32)) (fun z41 => z_let (z_up u40 1 4 (z_rem ((u40 1 4) + z41) (8 : Int32))) (fun u42 => (f_X11_governorNow u42).bind (fun r43 => if r43 = (-1 : Int32) then (z_let (z_rem ((u42 1 4) + (4 : Int32)) (8 : Int32)) (fun z44 => z_b2 (f_X11_collects z44 u42) (fun r45 u46 => (f_X11_firstWaiting u46).bind (fun r47 => f_X11_goes_116 (fun k1 k2 k3 k4 u => f_X11_goes_5 n k1 k2 k3 k4 u) 5000 x1 x2 x3 x4 r43 z44 r45 r47 u46)))) else ((f_X11_of r43 (3 : Int32) u42).bind (fun r48 => z_let ((13 : Int32) + r48) (fun z49 => if z_in z49 705 = true then (z_let (u42 1 (z49).toNatClampNeg) (fun z50 => if z_in z49 705 = true then (z_let (z_up u42 1 (z49).toNatClampNeg (z50 + (1 : Int32))) (fun u51 => z_let (z_rem ((u51 1 4) + (4 : Int32)) (8 : Int32)) (fun z52 => z_b2 (f_X11_collects z52 u51) (fun r53 u54 => (f_X11_firstWaiting u54).bind (fun r55 => f_X11_goes_116 (fun k1 k2 k3 k4 u => f_X11_goes_5 n k1 k2 k3 k4 u) 5000 x1 x2 x3 x4 r43 z52 r53 r55 u54))))) else none)) else none)))))))) else (z_let ((r1 + x2) + (1 : Int32)) (fun z3 => z_let (z_up u2 1 4 (z_rem ((u2 1 4) + z3) (8 : Int32))) (fun u4 => (f_X11_governorNow u4).bind (fun r5 => if r5 = (-1 : Int32) then (z_let (z_rem ((u4 1 4) + (4 : Int32)) (8 : Int32)) (fun z6 => z_b2 (f_X11_collects z6 u4) (fun r7 u8 => (f_X11_firstWaiting u8).bind (fun r9 => f_X11_goes_116 (fun k1 k2 k3 k4 u => f_X11_goes_5 n k1 k2 k3 k4 u) 5000 x1 x2 x3 x4 r5 z6 r7 r9 u8)))) else ((f_X11_of r5 (3 : Int32) u4).bind (fun r31 => z_let ((13 : Int32) + r31) (fun z32 => if z_in z32 705 = true then (z_let (u4 1 (z32).toNatClampNeg) (fun z33 => if z_in z32 705 = true then (z_let (z_up u4 1 (z32).toNatClampNeg (z33 + (1 : Int32))) (fun u34 => z_let (z_rem ((u34 1 4) + (4 : Int32)) (8 : Int32)) (fun z35 => z_b2 (f_X11_collects z35 u34) (fun r36 u37 => (f_X11_firstWaiting u37).bind (fun r38 => f_X11_goes_116 (fun k1 k2 k3 k4 u => f_X11_goes_5 n k1 k2 k3 k4 u) 5000 x1 x2 x3 x4 r5 z35 r36 r38 u37))))) else none)) else none))))))))) := rfl
def f_X11_goes (a1 : Int32) (a2 : Int32) (u : zU) : Option (Int32 × zU) :=
  f_X11_goes_5 5000 a1 a2 (0 : Int32) (0 : Int32) u
set_option maxRecDepth 100000 in
set_option maxHeartbeats 4000000 in
theorem l_X11_goes_116 {l : Launch} {D : zD} {A : Nat → Prop} {b : Nat} {p : Program} {e : Env} {s : State} {m : MethodId} {args : Array Value} {below : List Frame} {meth : Method} {c : Code} {v : Int32} {u' : zU} {K : Int32 → Int32 → Int32 → Int32 → zU → Option (Int32 × zU)} (C0 : z_C p c cX11_goes s m args yX11_goes.cls D A) (hr : meth.sig.returnType = (some .int)) (hml : c.maxLocals = 10) (hlk : meth.locks = false) (hK : ∀ (x1 : Int32) (x2 : Int32) (x3 : Int32) (x4 : Int32) (u : zU) (H : Heap) (locs : List Loc) (ls : Array Slot), K x1 x2 x3 x4 u = some (v, u') → z_W D A b gM u H → va_S A s.heap H locs → lv_has ls 10 [(0, .ref (b + 0)), (1, .int x1), (2, .int x2), (3, .int x3), (4, .int x4)] → W p l e { frames := 44, cells := 0, slots := 0, locals := 1398 } s m args below meth c H locs 0 0 (z_End D A b gM below args s (some (.int v)) u') (F0 m 5 ls [])) : ∀ (n : Nat) (x1 : Int32) (x2 : Int32) (x3 : Int32) (x4 : Int32) (x6 : Int32) (x7 : Int32) (x8 : Int32) (x9 : Int32) (u : zU) (H : Heap) (locs : List Loc) (ls : Array Slot), f_X11_goes_116 K n x1 x2 x3 x4 x6 x7 x8 x9 u = some (v, u') → z_W D A b gM u H → va_S A s.heap H locs → lv_has ls 10 [(0, .ref (b + 0)), (1, .int x1), (2, .int x2), (3, .int x3), (4, .int x4), (6, .int x6), (7, .int x7), (8, .int x8), (9, .int x9)] → W p l e { frames := 44, cells := 0, slots := 0, locals := 1398 } s m args below meth c H locs 0 0 (z_End D A b gM below args s (some (.int v)) u') (F0 m 116 ls []) := by
  have hx := C0.1
  have hb := C0.2.1
  intro n
  induction n with
  | zero => intro x1 x2 x3 x4 x6 x7 x8 x9 u H locs ls h hW hS hl; cases h
  | succ n ih =>
    intro x1 x2 x3 x4 x6 x7 x8 x9 u H locs ls h hW hS hl
    rw [f_X11_goes_116_s] at h
    refine lv_iload hx hb dX11_goes_116 (lv_at hl 8 rfl) ?_
    refine lv_iconst (v := (-1 : Int32)) hx hb dX11_goes_118 (by decide) ?_
    refine lv_icmp_eq (tgt := 148) hx hb dX11_goes_119 (by decide) (fun hc => ?_) (fun hc => ?_)
    · replace h := z_t h hc
      clear hc
      refine lv_iload_n hx hb dX11_goes_148 rfl (lv_at hl 2 rfl) ?_
      refine lv_iconst (v := (-1 : Int32)) hx hb dX11_goes_149 (by decide) ?_
      refine lv_icmp_ne (tgt := 157) hx hb dX11_goes_150 (by decide) (fun hc => ?_) (fun hc => ?_)
      · replace h := z_f h hc
        clear hc
        refine lv_aload_n hx hb dX11_goes_157 rfl (lv_at hl 0 rfl) ?_
        refine lv_iload hx hb dX11_goes_158 (lv_at hl 5 rfl) ?_
        refine lv_iload hx hb dX11_goes_160 (lv_at hl 7 rfl) ?_
        replace h := z_bd h
        obtain ⟨u10, hq, h⟩ := h
        refine z_cvv (As := [.int x6, .int x8]) C0 hml hl.1 hW hS (c_X11_logs l D A b x6 x8 u hq) mv_X11_288 rfl ⟨Nat.le_of_ble_eq_true rfl, Nat.le_of_ble_eq_true rfl⟩ rfl rfl (Nat.le_of_ble_eq_true rfl) dX11_goes_162 (fun H locs hW hS => ?_)
        clear hq
        refine lv_aload_n hx hb dX11_goes_165 rfl (lv_at hl 0 rfl) ?_
        refine z_getr (o := 1) C0 hW fl_X11_7 rfl rfl rfl dX11_goes_166 ?_
        refine lv_bipush (v := (9 : Int32)) hx hb dX11_goes_169 (by decide) ?_
        refine lv_sipush (v := (9999 : Int32)) hx hb dX11_goes_171 (by decide) ?_
        refine lv_aload_n hx hb dX11_goes_174 rfl (lv_at hl 0 rfl) ?_
        refine z_getr (o := 1) C0 hW fl_X11_7 rfl rfl rfl dX11_goes_175 ?_
        refine lv_bipush (v := (9 : Int32)) hx hb dX11_goes_178 (by decide) ?_
        refine z_iald (k := 9) (n := 705) C0 hW rfl rfl (by decide) (by decide) dX11_goes_180 ?_
        refine lv_iconst (v := (1 : Int32)) hx hb dX11_goes_181 (by decide) ?_
        refine lv_iadd hx hb dX11_goes_182 ?_
        obtain ⟨r11, hq⟩ : ∃ y, f_X11_lesser (9999 : Int32) ((u10 1 9) + (1 : Int32)) u10 = y := ⟨_, rfl⟩
        replace h := z_lz h hq
        refine z_csi (As := [.int (9999 : Int32), .int ((u10 1 9) + (1 : Int32))]) C0 hml hl.1 hW hS (c_X11_lesser l D A b (9999 : Int32) ((u10 1 9) + (1 : Int32)) u10 hq) ms_X11_63 ⟨Nat.le_of_ble_eq_true rfl, Nat.le_of_ble_eq_true rfl⟩ rfl rfl (Nat.le_of_ble_eq_true rfl) dX11_goes_183 (fun H locs hW hS => ?_)
        clear hq
        refine z_iast (k := 9) (n := 705) C0 hW hS rfl rfl (by decide) (by decide) dX11_goes_186 (fun H locs u12 e1 hW hS => ?_)
        replace h := z_ly h e1
        clear e1
        refine lv_iload_n hx hb dX11_goes_187 rfl (lv_at hl 3 rfl) ?_
        refine lv_iload hx hb dX11_goes_188 (lv_at hl 7 rfl) ?_
        refine lv_iadd hx hb dX11_goes_190 ?_
        refine lv_topi (fun z13 e1 => ?_)
        replace h := z_ly h e1
        clear e1
        refine lv_istore_n (lv' := [(3, .int z13), (0, .ref (b + 0)), (1, .int x1), (2, .int x2), (4, .int x4), (6, .int x6), (7, .int x7), (8, .int x8), (9, .int x9)]) hx hb dX11_goes_191 rfl hl (by decide) rfl (fun ls hl => ?_)
        refine lv_iinc (v := x4 + (1 : Int32)) (lv' := [(4, .int (x4 + (1 : Int32))), (3, .int z13), (0, .ref (b + 0)), (1, .int x1), (2, .int x2), (6, .int x6), (7, .int x7), (8, .int x8), (9, .int x9)]) hx hb dX11_goes_192 hl (k := 4) rfl rfl (by decide) rfl (fun ls hl => ?_)
        refine lv_goto (tgt := 5) hx hb dX11_goes_195 (by decide) ?_
        exact hK _ _ _ _ _ _ _ _ h hW hS (lv_sub hl [2, 3, 4, 1, 0] rfl)
      · replace h := z_t h hc
        clear hc
        refine lv_aload_n hx hb dX11_goes_153 rfl (lv_at hl 0 rfl) ?_
        replace h := z_bd h
        obtain ⟨u14, hq, h⟩ := h
        refine z_cvv (As := []) C0 hml hl.1 hW hS (c_X11_blows l D A b u hq) mv_X11_285 rfl ⟨Nat.le_of_ble_eq_true rfl, Nat.le_of_ble_eq_true rfl⟩ rfl rfl (Nat.le_of_ble_eq_true rfl) dX11_goes_154 (fun H locs hW hS => ?_)
        clear hq
        refine lv_aload_n hx hb dX11_goes_157 rfl (lv_at hl 0 rfl) ?_
        refine lv_iload hx hb dX11_goes_158 (lv_at hl 5 rfl) ?_
        refine lv_iload hx hb dX11_goes_160 (lv_at hl 7 rfl) ?_
        replace h := z_bd h
        obtain ⟨u15, hq, h⟩ := h
        refine z_cvv (As := [.int x6, .int x8]) C0 hml hl.1 hW hS (c_X11_logs l D A b x6 x8 u14 hq) mv_X11_288 rfl ⟨Nat.le_of_ble_eq_true rfl, Nat.le_of_ble_eq_true rfl⟩ rfl rfl (Nat.le_of_ble_eq_true rfl) dX11_goes_162 (fun H locs hW hS => ?_)
        clear hq
        refine lv_aload_n hx hb dX11_goes_165 rfl (lv_at hl 0 rfl) ?_
        refine z_getr (o := 1) C0 hW fl_X11_7 rfl rfl rfl dX11_goes_166 ?_
        refine lv_bipush (v := (9 : Int32)) hx hb dX11_goes_169 (by decide) ?_
        refine lv_sipush (v := (9999 : Int32)) hx hb dX11_goes_171 (by decide) ?_
        refine lv_aload_n hx hb dX11_goes_174 rfl (lv_at hl 0 rfl) ?_
        refine z_getr (o := 1) C0 hW fl_X11_7 rfl rfl rfl dX11_goes_175 ?_
        refine lv_bipush (v := (9 : Int32)) hx hb dX11_goes_178 (by decide) ?_
        refine z_iald (k := 9) (n := 705) C0 hW rfl rfl (by decide) (by decide) dX11_goes_180 ?_
        refine lv_iconst (v := (1 : Int32)) hx hb dX11_goes_181 (by decide) ?_
        refine lv_iadd hx hb dX11_goes_182 ?_
        obtain ⟨r16, hq⟩ : ∃ y, f_X11_lesser (9999 : Int32) ((u15 1 9) + (1 : Int32)) u15 = y := ⟨_, rfl⟩
        replace h := z_lz h hq
        refine z_csi (As := [.int (9999 : Int32), .int ((u15 1 9) + (1 : Int32))]) C0 hml hl.1 hW hS (c_X11_lesser l D A b (9999 : Int32) ((u15 1 9) + (1 : Int32)) u15 hq) ms_X11_63 ⟨Nat.le_of_ble_eq_true rfl, Nat.le_of_ble_eq_true rfl⟩ rfl rfl (Nat.le_of_ble_eq_true rfl) dX11_goes_183 (fun H locs hW hS => ?_)
        clear hq
        refine z_iast (k := 9) (n := 705) C0 hW hS rfl rfl (by decide) (by decide) dX11_goes_186 (fun H locs u17 e1 hW hS => ?_)
        replace h := z_ly h e1
        clear e1
        refine lv_iload_n hx hb dX11_goes_187 rfl (lv_at hl 3 rfl) ?_
        refine lv_iload hx hb dX11_goes_188 (lv_at hl 7 rfl) ?_
        refine lv_iadd hx hb dX11_goes_190 ?_
        refine lv_topi (fun z18 e1 => ?_)
        replace h := z_ly h e1
        clear e1
        refine lv_istore_n (lv' := [(3, .int z18), (0, .ref (b + 0)), (1, .int x1), (2, .int x2), (4, .int x4), (6, .int x6), (7, .int x7), (8, .int x8), (9, .int x9)]) hx hb dX11_goes_191 rfl hl (by decide) rfl (fun ls hl => ?_)
        refine lv_iinc (v := x4 + (1 : Int32)) (lv' := [(4, .int (x4 + (1 : Int32))), (3, .int z18), (0, .ref (b + 0)), (1, .int x1), (2, .int x2), (6, .int x6), (7, .int x7), (8, .int x8), (9, .int x9)]) hx hb dX11_goes_192 hl (k := 4) rfl rfl (by decide) rfl (fun ls hl => ?_)
        refine lv_goto (tgt := 5) hx hb dX11_goes_195 (by decide) ?_
        exact hK _ _ _ _ _ _ _ _ h hW hS (lv_sub hl [2, 3, 4, 1, 0] rfl)
    · replace h := z_f h hc
      clear hc
      refine lv_aload_n hx hb dX11_goes_122 rfl (lv_at hl 0 rfl) ?_
      refine lv_iload hx hb dX11_goes_123 (lv_at hl 6 rfl) ?_
      replace h := z_bd h
      obtain ⟨t19, hq, h⟩ := h
      refine z_cvi (As := [.int x7]) C0 hml hl.1 hW hS (c_X11_hasRoom l D A b x7 u hq) mv_X11_127 rfl ⟨Nat.le_of_ble_eq_true rfl, Nat.le_of_ble_eq_true rfl⟩ rfl rfl (Nat.le_of_ble_eq_true rfl) dX11_goes_125 (fun H locs hW hS => ?_)
      clear hq
      refine z_ifeqZ C0 (tgt := 148) dX11_goes_128 (by decide) (fun hc => ?_) (fun hc => ?_)
      · replace h := z_ff h hc
        clear hc
        refine lv_iload_n hx hb dX11_goes_148 rfl (lv_at hl 2 rfl) ?_
        refine lv_iconst (v := (-1 : Int32)) hx hb dX11_goes_149 (by decide) ?_
        refine lv_icmp_ne (tgt := 157) hx hb dX11_goes_150 (by decide) (fun hc => ?_) (fun hc => ?_)
        · replace h := z_f h hc
          clear hc
          refine lv_aload_n hx hb dX11_goes_157 rfl (lv_at hl 0 rfl) ?_
          refine lv_iload hx hb dX11_goes_158 (lv_at hl 5 rfl) ?_
          refine lv_iload hx hb dX11_goes_160 (lv_at hl 7 rfl) ?_
          replace h := z_bd h
          obtain ⟨u20, hq, h⟩ := h
          refine z_cvv (As := [.int x6, .int x8]) C0 hml hl.1 hW hS (c_X11_logs l D A b x6 x8 u hq) mv_X11_288 rfl ⟨Nat.le_of_ble_eq_true rfl, Nat.le_of_ble_eq_true rfl⟩ rfl rfl (Nat.le_of_ble_eq_true rfl) dX11_goes_162 (fun H locs hW hS => ?_)
          clear hq
          refine lv_aload_n hx hb dX11_goes_165 rfl (lv_at hl 0 rfl) ?_
          refine z_getr (o := 1) C0 hW fl_X11_7 rfl rfl rfl dX11_goes_166 ?_
          refine lv_bipush (v := (9 : Int32)) hx hb dX11_goes_169 (by decide) ?_
          refine lv_sipush (v := (9999 : Int32)) hx hb dX11_goes_171 (by decide) ?_
          refine lv_aload_n hx hb dX11_goes_174 rfl (lv_at hl 0 rfl) ?_
          refine z_getr (o := 1) C0 hW fl_X11_7 rfl rfl rfl dX11_goes_175 ?_
          refine lv_bipush (v := (9 : Int32)) hx hb dX11_goes_178 (by decide) ?_
          refine z_iald (k := 9) (n := 705) C0 hW rfl rfl (by decide) (by decide) dX11_goes_180 ?_
          refine lv_iconst (v := (1 : Int32)) hx hb dX11_goes_181 (by decide) ?_
          refine lv_iadd hx hb dX11_goes_182 ?_
          obtain ⟨r21, hq⟩ : ∃ y, f_X11_lesser (9999 : Int32) ((u20 1 9) + (1 : Int32)) u20 = y := ⟨_, rfl⟩
          replace h := z_lz h hq
          refine z_csi (As := [.int (9999 : Int32), .int ((u20 1 9) + (1 : Int32))]) C0 hml hl.1 hW hS (c_X11_lesser l D A b (9999 : Int32) ((u20 1 9) + (1 : Int32)) u20 hq) ms_X11_63 ⟨Nat.le_of_ble_eq_true rfl, Nat.le_of_ble_eq_true rfl⟩ rfl rfl (Nat.le_of_ble_eq_true rfl) dX11_goes_183 (fun H locs hW hS => ?_)
          clear hq
          refine z_iast (k := 9) (n := 705) C0 hW hS rfl rfl (by decide) (by decide) dX11_goes_186 (fun H locs u22 e1 hW hS => ?_)
          replace h := z_ly h e1
          clear e1
          refine lv_iload_n hx hb dX11_goes_187 rfl (lv_at hl 3 rfl) ?_
          refine lv_iload hx hb dX11_goes_188 (lv_at hl 7 rfl) ?_
          refine lv_iadd hx hb dX11_goes_190 ?_
          refine lv_topi (fun z23 e1 => ?_)
          replace h := z_ly h e1
          clear e1
          refine lv_istore_n (lv' := [(3, .int z23), (0, .ref (b + 0)), (1, .int x1), (2, .int x2), (4, .int x4), (6, .int x6), (7, .int x7), (8, .int x8), (9, .int x9)]) hx hb dX11_goes_191 rfl hl (by decide) rfl (fun ls hl => ?_)
          refine lv_iinc (v := x4 + (1 : Int32)) (lv' := [(4, .int (x4 + (1 : Int32))), (3, .int z23), (0, .ref (b + 0)), (1, .int x1), (2, .int x2), (6, .int x6), (7, .int x7), (8, .int x8), (9, .int x9)]) hx hb dX11_goes_192 hl (k := 4) rfl rfl (by decide) rfl (fun ls hl => ?_)
          refine lv_goto (tgt := 5) hx hb dX11_goes_195 (by decide) ?_
          exact hK _ _ _ _ _ _ _ _ h hW hS (lv_sub hl [2, 3, 4, 1, 0] rfl)
        · replace h := z_t h hc
          clear hc
          refine lv_aload_n hx hb dX11_goes_153 rfl (lv_at hl 0 rfl) ?_
          replace h := z_bd h
          obtain ⟨u24, hq, h⟩ := h
          refine z_cvv (As := []) C0 hml hl.1 hW hS (c_X11_blows l D A b u hq) mv_X11_285 rfl ⟨Nat.le_of_ble_eq_true rfl, Nat.le_of_ble_eq_true rfl⟩ rfl rfl (Nat.le_of_ble_eq_true rfl) dX11_goes_154 (fun H locs hW hS => ?_)
          clear hq
          refine lv_aload_n hx hb dX11_goes_157 rfl (lv_at hl 0 rfl) ?_
          refine lv_iload hx hb dX11_goes_158 (lv_at hl 5 rfl) ?_
          refine lv_iload hx hb dX11_goes_160 (lv_at hl 7 rfl) ?_
          replace h := z_bd h
          obtain ⟨u25, hq, h⟩ := h
          refine z_cvv (As := [.int x6, .int x8]) C0 hml hl.1 hW hS (c_X11_logs l D A b x6 x8 u24 hq) mv_X11_288 rfl ⟨Nat.le_of_ble_eq_true rfl, Nat.le_of_ble_eq_true rfl⟩ rfl rfl (Nat.le_of_ble_eq_true rfl) dX11_goes_162 (fun H locs hW hS => ?_)
          clear hq
          refine lv_aload_n hx hb dX11_goes_165 rfl (lv_at hl 0 rfl) ?_
          refine z_getr (o := 1) C0 hW fl_X11_7 rfl rfl rfl dX11_goes_166 ?_
          refine lv_bipush (v := (9 : Int32)) hx hb dX11_goes_169 (by decide) ?_
          refine lv_sipush (v := (9999 : Int32)) hx hb dX11_goes_171 (by decide) ?_
          refine lv_aload_n hx hb dX11_goes_174 rfl (lv_at hl 0 rfl) ?_
          refine z_getr (o := 1) C0 hW fl_X11_7 rfl rfl rfl dX11_goes_175 ?_
          refine lv_bipush (v := (9 : Int32)) hx hb dX11_goes_178 (by decide) ?_
          refine z_iald (k := 9) (n := 705) C0 hW rfl rfl (by decide) (by decide) dX11_goes_180 ?_
          refine lv_iconst (v := (1 : Int32)) hx hb dX11_goes_181 (by decide) ?_
          refine lv_iadd hx hb dX11_goes_182 ?_
          obtain ⟨r26, hq⟩ : ∃ y, f_X11_lesser (9999 : Int32) ((u25 1 9) + (1 : Int32)) u25 = y := ⟨_, rfl⟩
          replace h := z_lz h hq
          refine z_csi (As := [.int (9999 : Int32), .int ((u25 1 9) + (1 : Int32))]) C0 hml hl.1 hW hS (c_X11_lesser l D A b (9999 : Int32) ((u25 1 9) + (1 : Int32)) u25 hq) ms_X11_63 ⟨Nat.le_of_ble_eq_true rfl, Nat.le_of_ble_eq_true rfl⟩ rfl rfl (Nat.le_of_ble_eq_true rfl) dX11_goes_183 (fun H locs hW hS => ?_)
          clear hq
          refine z_iast (k := 9) (n := 705) C0 hW hS rfl rfl (by decide) (by decide) dX11_goes_186 (fun H locs u27 e1 hW hS => ?_)
          replace h := z_ly h e1
          clear e1
          refine lv_iload_n hx hb dX11_goes_187 rfl (lv_at hl 3 rfl) ?_
          refine lv_iload hx hb dX11_goes_188 (lv_at hl 7 rfl) ?_
          refine lv_iadd hx hb dX11_goes_190 ?_
          refine lv_topi (fun z28 e1 => ?_)
          replace h := z_ly h e1
          clear e1
          refine lv_istore_n (lv' := [(3, .int z28), (0, .ref (b + 0)), (1, .int x1), (2, .int x2), (4, .int x4), (6, .int x6), (7, .int x7), (8, .int x8), (9, .int x9)]) hx hb dX11_goes_191 rfl hl (by decide) rfl (fun ls hl => ?_)
          refine lv_iinc (v := x4 + (1 : Int32)) (lv' := [(4, .int (x4 + (1 : Int32))), (3, .int z28), (0, .ref (b + 0)), (1, .int x1), (2, .int x2), (6, .int x6), (7, .int x7), (8, .int x8), (9, .int x9)]) hx hb dX11_goes_192 hl (k := 4) rfl rfl (by decide) rfl (fun ls hl => ?_)
          refine lv_goto (tgt := 5) hx hb dX11_goes_195 (by decide) ?_
          exact hK _ _ _ _ _ _ _ _ h hW hS (lv_sub hl [2, 3, 4, 1, 0] rfl)
      · replace h := z_t h hc
        clear hc
        refine lv_aload_n hx hb dX11_goes_131 rfl (lv_at hl 0 rfl) ?_
        refine lv_iload hx hb dX11_goes_132 (lv_at hl 8 rfl) ?_
        refine lv_iload hx hb dX11_goes_134 (lv_at hl 6 rfl) ?_
        replace h := z_bd h
        obtain ⟨u29, hq, h⟩ := h
        refine z_cvv (As := [.int x9, .int x7]) C0 hml hl.1 hW hS (c_X11_gets l D A b x9 x7 u hq) mv_X11_281 rfl ⟨Nat.le_of_ble_eq_true rfl, Nat.le_of_ble_eq_true rfl⟩ rfl rfl (Nat.le_of_ble_eq_true rfl) dX11_goes_136 (fun H locs hW hS => ?_)
        clear hq
        refine lv_aload_n hx hb dX11_goes_139 rfl (lv_at hl 0 rfl) ?_
        replace h := z_bd h
        obtain ⟨r30, hq, h⟩ := h
        refine z_cvi (As := []) C0 hml hl.1 hW hS (c_X11_firstWaiting l D A b u29 hq) mv_X11_278 rfl ⟨Nat.le_of_ble_eq_true rfl, Nat.le_of_ble_eq_true rfl⟩ rfl rfl (Nat.le_of_ble_eq_true rfl) dX11_goes_140 (fun H locs hW hS => ?_)
        clear hq
        refine lv_istore (lv' := [(9, .int r30), (0, .ref (b + 0)), (1, .int x1), (2, .int x2), (3, .int x3), (4, .int x4), (6, .int x6), (7, .int x7), (8, .int x8)]) hx hb dX11_goes_143 hl (by decide) rfl (fun ls hl => ?_)
        refine lv_goto (tgt := 116) hx hb dX11_goes_145 (by decide) ?_
        exact ih _ _ _ _ _ _ _ _ _ _ _ _ h hW hS (lv_sub hl [1, 2, 3, 4, 5, 6, 7, 8, 0] rfl)
set_option maxRecDepth 100000 in
set_option maxHeartbeats 4000000 in
theorem l_X11_goes_5 {l : Launch} {D : zD} {A : Nat → Prop} {b : Nat} {p : Program} {e : Env} {s : State} {m : MethodId} {args : Array Value} {below : List Frame} {meth : Method} {c : Code} {v : Int32} {u' : zU} (C0 : z_C p c cX11_goes s m args yX11_goes.cls D A) (hr : meth.sig.returnType = (some .int)) (hml : c.maxLocals = 10) (hlk : meth.locks = false) : ∀ (n : Nat) (x1 : Int32) (x2 : Int32) (x3 : Int32) (x4 : Int32) (u : zU) (H : Heap) (locs : List Loc) (ls : Array Slot), f_X11_goes_5 n x1 x2 x3 x4 u = some (v, u') → z_W D A b gM u H → va_S A s.heap H locs → lv_has ls 10 [(0, .ref (b + 0)), (1, .int x1), (2, .int x2), (3, .int x3), (4, .int x4)] → W p l e { frames := 44, cells := 0, slots := 0, locals := 1398 } s m args below meth c H locs 0 0 (z_End D A b gM below args s (some (.int v)) u') (F0 m 5 ls []) := by
  have hx := C0.1
  have hb := C0.2.1
  intro n
  induction n with
  | zero => intro x1 x2 x3 x4 u H locs ls h hW hS hl; cases h
  | succ n ih =>
    intro x1 x2 x3 x4 u H locs ls h hW hS hl
    rw [f_X11_goes_5_s] at h
    refine lv_iload hx hb dX11_goes_5 (lv_at hl 4 rfl) ?_
    refine lv_iload_n hx hb dX11_goes_7 rfl (lv_at hl 1 rfl) ?_
    refine lv_icmp_ge (tgt := 198) hx hb dX11_goes_8 (by decide) (fun hc => ?_) (fun hc => ?_)
    · replace h := z_t h hc
      clear hc
      refine lv_iload_n hx hb dX11_goes_198 rfl (lv_at hl 3 rfl) ?_
      cases h
      exact z_iret C0 hr hlk hW hS dX11_goes_199
    · replace h := z_f h hc
      clear hc
      refine lv_aload_n hx hb dX11_goes_11 rfl (lv_at hl 0 rfl) ?_
      replace h := z_bd2 h
      obtain ⟨r1, u2, hq, h⟩ := h
      refine z_cvi (As := []) C0 hml hl.1 hW hS (c_X11_fartherNow l D A b u hq) mv_X11_272 rfl ⟨Nat.le_of_ble_eq_true rfl, Nat.le_of_ble_eq_true rfl⟩ rfl rfl (Nat.le_of_ble_eq_true rfl) dX11_goes_12 (fun H locs hW hS => ?_)
      clear hq
      refine lv_iload_n hx hb dX11_goes_15 rfl (lv_at hl 2 rfl) ?_
      refine lv_iconst (v := (-1 : Int32)) hx hb dX11_goes_16 (by decide) ?_
      refine lv_icmp_ne (tgt := 34) hx hb dX11_goes_17 (by decide) (fun hc => ?_) (fun hc => ?_)
      · replace h := z_f h hc
        clear hc
        refine lv_iload_n hx hb dX11_goes_34 rfl (lv_at hl 2 rfl) ?_
        refine lv_iadd hx hb dX11_goes_35 ?_
        refine lv_iconst (v := (1 : Int32)) hx hb dX11_goes_36 (by decide) ?_
        refine lv_iadd hx hb dX11_goes_37 ?_
        refine lv_topi (fun z3 e1 => ?_)
        replace h := z_ly h e1
        clear e1
        refine lv_istore (lv' := [(5, .int z3), (0, .ref (b + 0)), (1, .int x1), (2, .int x2), (3, .int x3), (4, .int x4)]) hx hb dX11_goes_38 hl (by decide) rfl (fun ls hl => ?_)
        refine lv_aload_n hx hb dX11_goes_40 rfl (lv_at hl 1 rfl) ?_
        refine z_getr (o := 1) C0 hW fl_X11_7 rfl rfl rfl dX11_goes_41 ?_
        refine lv_iconst (v := (4 : Int32)) hx hb dX11_goes_44 (by decide) ?_
        refine lv_aload_n hx hb dX11_goes_45 rfl (lv_at hl 1 rfl) ?_
        refine z_getr (o := 1) C0 hW fl_X11_7 rfl rfl rfl dX11_goes_46 ?_
        refine lv_iconst (v := (4 : Int32)) hx hb dX11_goes_49 (by decide) ?_
        refine z_iald (k := 4) (n := 705) C0 hW rfl rfl (by decide) (by decide) dX11_goes_50 ?_
        refine lv_iload hx hb dX11_goes_51 (lv_at hl 0 rfl) ?_
        refine lv_iadd hx hb dX11_goes_53 ?_
        refine lv_bipush (v := (8 : Int32)) hx hb dX11_goes_54 (by decide) ?_
        refine lv_irem hx hb dX11_goes_56 (by decide) ?_
        refine z_iast (k := 4) (n := 705) C0 hW hS rfl rfl (by decide) (by decide) dX11_goes_57 (fun H locs u4 e1 hW hS => ?_)
        replace h := z_ly h e1
        clear e1
        refine lv_aload_n hx hb dX11_goes_58 rfl (lv_at hl 1 rfl) ?_
        replace h := z_bd h
        obtain ⟨r5, hq, h⟩ := h
        refine z_cvi (As := []) C0 hml hl.1 hW hS (c_X11_governorNow l D A b u4 hq) mv_X11_249 rfl ⟨Nat.le_of_ble_eq_true rfl, Nat.le_of_ble_eq_true rfl⟩ rfl rfl (Nat.le_of_ble_eq_true rfl) dX11_goes_59 (fun H locs hW hS => ?_)
        clear hq
        refine lv_istore (lv' := [(6, .int r5), (5, .int z3), (0, .ref (b + 0)), (1, .int x1), (2, .int x2), (3, .int x3), (4, .int x4)]) hx hb dX11_goes_62 hl (by decide) rfl (fun ls hl => ?_)
        refine lv_iload hx hb dX11_goes_64 (lv_at hl 0 rfl) ?_
        refine lv_iconst (v := (-1 : Int32)) hx hb dX11_goes_66 (by decide) ?_
        refine lv_icmp_eq (tgt := 89) hx hb dX11_goes_67 (by decide) (fun hc => ?_) (fun hc => ?_)
        · replace h := z_t h hc
          clear hc
          refine lv_aload_n hx hb dX11_goes_89 rfl (lv_at hl 2 rfl) ?_
          refine z_getr (o := 1) C0 hW fl_X11_7 rfl rfl rfl dX11_goes_90 ?_
          refine lv_iconst (v := (4 : Int32)) hx hb dX11_goes_93 (by decide) ?_
          refine z_iald (k := 4) (n := 705) C0 hW rfl rfl (by decide) (by decide) dX11_goes_94 ?_
          refine lv_iconst (v := (4 : Int32)) hx hb dX11_goes_95 (by decide) ?_
          refine lv_iadd hx hb dX11_goes_96 ?_
          refine lv_bipush (v := (8 : Int32)) hx hb dX11_goes_97 (by decide) ?_
          refine lv_irem hx hb dX11_goes_99 (by decide) ?_
          refine lv_topi (fun z6 e1 => ?_)
          replace h := z_ly h e1
          clear e1
          refine lv_istore (lv' := [(7, .int z6), (6, .int r5), (5, .int z3), (0, .ref (b + 0)), (1, .int x1), (2, .int x2), (3, .int x3), (4, .int x4)]) hx hb dX11_goes_100 hl (by decide) rfl (fun ls hl => ?_)
          refine lv_aload_n hx hb dX11_goes_102 rfl (lv_at hl 3 rfl) ?_
          refine lv_iload hx hb dX11_goes_103 (lv_at hl 0 rfl) ?_
          replace h := z_bd2 h
          obtain ⟨r7, u8, hq, h⟩ := h
          refine z_cvi (As := [.int z6]) C0 hml hl.1 hW hS (c_X11_collects l D A b z6 u4 hq) mv_X11_275 rfl ⟨Nat.le_of_ble_eq_true rfl, Nat.le_of_ble_eq_true rfl⟩ rfl rfl (Nat.le_of_ble_eq_true rfl) dX11_goes_105 (fun H locs hW hS => ?_)
          clear hq
          refine lv_istore (lv' := [(8, .int r7), (7, .int z6), (6, .int r5), (5, .int z3), (0, .ref (b + 0)), (1, .int x1), (2, .int x2), (3, .int x3), (4, .int x4)]) hx hb dX11_goes_108 hl (by decide) rfl (fun ls hl => ?_)
          refine lv_aload_n hx hb dX11_goes_110 rfl (lv_at hl 4 rfl) ?_
          replace h := z_bd h
          obtain ⟨r9, hq, h⟩ := h
          refine z_cvi (As := []) C0 hml hl.1 hW hS (c_X11_firstWaiting l D A b u8 hq) mv_X11_278 rfl ⟨Nat.le_of_ble_eq_true rfl, Nat.le_of_ble_eq_true rfl⟩ rfl rfl (Nat.le_of_ble_eq_true rfl) dX11_goes_111 (fun H locs hW hS => ?_)
          clear hq
          refine lv_istore (lv' := [(9, .int r9), (8, .int r7), (7, .int z6), (6, .int r5), (5, .int z3), (0, .ref (b + 0)), (1, .int x1), (2, .int x2), (3, .int x3), (4, .int x4)]) hx hb dX11_goes_114 hl (by decide) rfl (fun ls hl => ?_)
          exact l_X11_goes_116 C0 hr hml hlk (fun q0 q1 q2 q3 q4 q5 q6 q7 h hW hS hl => ih q0 q1 q2 q3 q4 q5 q6 q7 h hW hS hl) 5000 _ _ _ _ _ _ _ _ _ _ _ _ h hW hS (lv_sub hl [5, 6, 7, 8, 9, 3, 2, 1, 0] rfl)
        · replace h := z_f h hc
          clear hc
          refine lv_aload_n hx hb dX11_goes_70 rfl (lv_at hl 2 rfl) ?_
          refine z_getr (o := 1) C0 hW fl_X11_7 rfl rfl rfl dX11_goes_71 ?_
          refine lv_bipush (v := (13 : Int32)) hx hb dX11_goes_74 (by decide) ?_
          refine lv_aload_n hx hb dX11_goes_76 rfl (lv_at hl 2 rfl) ?_
          refine lv_iload hx hb dX11_goes_77 (lv_at hl 0 rfl) ?_
          refine lv_iconst (v := (3 : Int32)) hx hb dX11_goes_79 (by decide) ?_
          replace h := z_bd h
          obtain ⟨r31, hq, h⟩ := h
          refine z_cvi (As := [.int r5, .int (3 : Int32)]) C0 hml hl.1 hW hS (c_X11_of l D A b r5 (3 : Int32) u4 hq) mv_X11_49 rfl ⟨Nat.le_of_ble_eq_true rfl, Nat.le_of_ble_eq_true rfl⟩ rfl rfl (Nat.le_of_ble_eq_true rfl) dX11_goes_80 (fun H locs hW hS => ?_)
          clear hq
          refine lv_iadd hx hb dX11_goes_83 ?_
          refine lv_topi (fun z32 e1 => ?_)
          replace h := z_ly h e1
          clear e1
          refine lv_dup2_11 hx hb dX11_goes_84 rfl rfl ?_
          replace h := z_if h
          obtain ⟨hin, h⟩ := h
          refine z_iald (n := 705) C0 hW rfl rfl hin rfl dX11_goes_85 ?_
          clear hin
          refine lv_topi (fun z33 e1 => ?_)
          replace h := z_ly h e1
          clear e1
          refine lv_iconst (v := (1 : Int32)) hx hb dX11_goes_86 (by decide) ?_
          refine lv_iadd hx hb dX11_goes_87 ?_
          replace h := z_if h
          obtain ⟨hin, h⟩ := h
          refine z_iast (n := 705) C0 hW hS rfl rfl hin rfl dX11_goes_88 (fun H locs u34 e1 hW hS => ?_)
          replace h := z_ly h e1
          clear e1
          refine lv_aload_n hx hb dX11_goes_89 rfl (lv_at hl 2 rfl) ?_
          refine z_getr (o := 1) C0 hW fl_X11_7 rfl rfl rfl dX11_goes_90 ?_
          refine lv_iconst (v := (4 : Int32)) hx hb dX11_goes_93 (by decide) ?_
          refine z_iald (k := 4) (n := 705) C0 hW rfl rfl (by decide) (by decide) dX11_goes_94 ?_
          refine lv_iconst (v := (4 : Int32)) hx hb dX11_goes_95 (by decide) ?_
          refine lv_iadd hx hb dX11_goes_96 ?_
          refine lv_bipush (v := (8 : Int32)) hx hb dX11_goes_97 (by decide) ?_
          refine lv_irem hx hb dX11_goes_99 (by decide) ?_
          refine lv_topi (fun z35 e1 => ?_)
          replace h := z_ly h e1
          clear e1
          refine lv_istore (lv' := [(7, .int z35), (6, .int r5), (5, .int z3), (0, .ref (b + 0)), (1, .int x1), (2, .int x2), (3, .int x3), (4, .int x4)]) hx hb dX11_goes_100 hl (by decide) rfl (fun ls hl => ?_)
          refine lv_aload_n hx hb dX11_goes_102 rfl (lv_at hl 3 rfl) ?_
          refine lv_iload hx hb dX11_goes_103 (lv_at hl 0 rfl) ?_
          replace h := z_bd2 h
          obtain ⟨r36, u37, hq, h⟩ := h
          refine z_cvi (As := [.int z35]) C0 hml hl.1 hW hS (c_X11_collects l D A b z35 u34 hq) mv_X11_275 rfl ⟨Nat.le_of_ble_eq_true rfl, Nat.le_of_ble_eq_true rfl⟩ rfl rfl (Nat.le_of_ble_eq_true rfl) dX11_goes_105 (fun H locs hW hS => ?_)
          clear hq
          refine lv_istore (lv' := [(8, .int r36), (7, .int z35), (6, .int r5), (5, .int z3), (0, .ref (b + 0)), (1, .int x1), (2, .int x2), (3, .int x3), (4, .int x4)]) hx hb dX11_goes_108 hl (by decide) rfl (fun ls hl => ?_)
          refine lv_aload_n hx hb dX11_goes_110 rfl (lv_at hl 4 rfl) ?_
          replace h := z_bd h
          obtain ⟨r38, hq, h⟩ := h
          refine z_cvi (As := []) C0 hml hl.1 hW hS (c_X11_firstWaiting l D A b u37 hq) mv_X11_278 rfl ⟨Nat.le_of_ble_eq_true rfl, Nat.le_of_ble_eq_true rfl⟩ rfl rfl (Nat.le_of_ble_eq_true rfl) dX11_goes_111 (fun H locs hW hS => ?_)
          clear hq
          refine lv_istore (lv' := [(9, .int r38), (8, .int r36), (7, .int z35), (6, .int r5), (5, .int z3), (0, .ref (b + 0)), (1, .int x1), (2, .int x2), (3, .int x3), (4, .int x4)]) hx hb dX11_goes_114 hl (by decide) rfl (fun ls hl => ?_)
          exact l_X11_goes_116 C0 hr hml hlk (fun q0 q1 q2 q3 q4 q5 q6 q7 h hW hS hl => ih q0 q1 q2 q3 q4 q5 q6 q7 h hW hS hl) 5000 _ _ _ _ _ _ _ _ _ _ _ _ h hW hS (lv_sub hl [5, 6, 7, 8, 9, 3, 2, 1, 0] rfl)
      · replace h := z_t h hc
        clear hc
        refine lv_aload_n hx hb dX11_goes_20 rfl (lv_at hl 0 rfl) ?_
        refine lv_aload_n hx hb dX11_goes_21 rfl (lv_at hl 0 rfl) ?_
        refine z_getr (o := 1) C0 hW fl_X11_7 rfl rfl rfl dX11_goes_22 ?_
        refine lv_bipush (v := (7 : Int32)) hx hb dX11_goes_25 (by decide) ?_
        refine z_iald (k := 7) (n := 705) C0 hW rfl rfl (by decide) (by decide) dX11_goes_27 ?_
        replace h := z_bd2 h
        obtain ⟨r39, u40, hq, h⟩ := h
        refine z_cvi (As := [.int (u2 1 7)]) C0 hml hl.1 hW hS (c_X11_draw l D A b (u2 1 7) u2 hq) mv_X11_269 rfl ⟨Nat.le_of_ble_eq_true rfl, Nat.le_of_ble_eq_true rfl⟩ rfl rfl (Nat.le_of_ble_eq_true rfl) dX11_goes_28 (fun H locs hW hS => ?_)
        clear hq
        refine lv_goto (tgt := 35) hx hb dX11_goes_31 (by decide) ?_
        refine lv_iadd hx hb dX11_goes_35 ?_
        refine lv_iconst (v := (1 : Int32)) hx hb dX11_goes_36 (by decide) ?_
        refine lv_iadd hx hb dX11_goes_37 ?_
        refine lv_topi (fun z41 e1 => ?_)
        replace h := z_ly h e1
        clear e1
        refine lv_istore (lv' := [(5, .int z41), (0, .ref (b + 0)), (1, .int x1), (2, .int x2), (3, .int x3), (4, .int x4)]) hx hb dX11_goes_38 hl (by decide) rfl (fun ls hl => ?_)
        refine lv_aload_n hx hb dX11_goes_40 rfl (lv_at hl 1 rfl) ?_
        refine z_getr (o := 1) C0 hW fl_X11_7 rfl rfl rfl dX11_goes_41 ?_
        refine lv_iconst (v := (4 : Int32)) hx hb dX11_goes_44 (by decide) ?_
        refine lv_aload_n hx hb dX11_goes_45 rfl (lv_at hl 1 rfl) ?_
        refine z_getr (o := 1) C0 hW fl_X11_7 rfl rfl rfl dX11_goes_46 ?_
        refine lv_iconst (v := (4 : Int32)) hx hb dX11_goes_49 (by decide) ?_
        refine z_iald (k := 4) (n := 705) C0 hW rfl rfl (by decide) (by decide) dX11_goes_50 ?_
        refine lv_iload hx hb dX11_goes_51 (lv_at hl 0 rfl) ?_
        refine lv_iadd hx hb dX11_goes_53 ?_
        refine lv_bipush (v := (8 : Int32)) hx hb dX11_goes_54 (by decide) ?_
        refine lv_irem hx hb dX11_goes_56 (by decide) ?_
        refine z_iast (k := 4) (n := 705) C0 hW hS rfl rfl (by decide) (by decide) dX11_goes_57 (fun H locs u42 e1 hW hS => ?_)
        replace h := z_ly h e1
        clear e1
        refine lv_aload_n hx hb dX11_goes_58 rfl (lv_at hl 1 rfl) ?_
        replace h := z_bd h
        obtain ⟨r43, hq, h⟩ := h
        refine z_cvi (As := []) C0 hml hl.1 hW hS (c_X11_governorNow l D A b u42 hq) mv_X11_249 rfl ⟨Nat.le_of_ble_eq_true rfl, Nat.le_of_ble_eq_true rfl⟩ rfl rfl (Nat.le_of_ble_eq_true rfl) dX11_goes_59 (fun H locs hW hS => ?_)
        clear hq
        refine lv_istore (lv' := [(6, .int r43), (5, .int z41), (0, .ref (b + 0)), (1, .int x1), (2, .int x2), (3, .int x3), (4, .int x4)]) hx hb dX11_goes_62 hl (by decide) rfl (fun ls hl => ?_)
        refine lv_iload hx hb dX11_goes_64 (lv_at hl 0 rfl) ?_
        refine lv_iconst (v := (-1 : Int32)) hx hb dX11_goes_66 (by decide) ?_
        refine lv_icmp_eq (tgt := 89) hx hb dX11_goes_67 (by decide) (fun hc => ?_) (fun hc => ?_)
        · replace h := z_t h hc
          clear hc
          refine lv_aload_n hx hb dX11_goes_89 rfl (lv_at hl 2 rfl) ?_
          refine z_getr (o := 1) C0 hW fl_X11_7 rfl rfl rfl dX11_goes_90 ?_
          refine lv_iconst (v := (4 : Int32)) hx hb dX11_goes_93 (by decide) ?_
          refine z_iald (k := 4) (n := 705) C0 hW rfl rfl (by decide) (by decide) dX11_goes_94 ?_
          refine lv_iconst (v := (4 : Int32)) hx hb dX11_goes_95 (by decide) ?_
          refine lv_iadd hx hb dX11_goes_96 ?_
          refine lv_bipush (v := (8 : Int32)) hx hb dX11_goes_97 (by decide) ?_
          refine lv_irem hx hb dX11_goes_99 (by decide) ?_
          refine lv_topi (fun z44 e1 => ?_)
          replace h := z_ly h e1
          clear e1
          refine lv_istore (lv' := [(7, .int z44), (6, .int r43), (5, .int z41), (0, .ref (b + 0)), (1, .int x1), (2, .int x2), (3, .int x3), (4, .int x4)]) hx hb dX11_goes_100 hl (by decide) rfl (fun ls hl => ?_)
          refine lv_aload_n hx hb dX11_goes_102 rfl (lv_at hl 3 rfl) ?_
          refine lv_iload hx hb dX11_goes_103 (lv_at hl 0 rfl) ?_
          replace h := z_bd2 h
          obtain ⟨r45, u46, hq, h⟩ := h
          refine z_cvi (As := [.int z44]) C0 hml hl.1 hW hS (c_X11_collects l D A b z44 u42 hq) mv_X11_275 rfl ⟨Nat.le_of_ble_eq_true rfl, Nat.le_of_ble_eq_true rfl⟩ rfl rfl (Nat.le_of_ble_eq_true rfl) dX11_goes_105 (fun H locs hW hS => ?_)
          clear hq
          refine lv_istore (lv' := [(8, .int r45), (7, .int z44), (6, .int r43), (5, .int z41), (0, .ref (b + 0)), (1, .int x1), (2, .int x2), (3, .int x3), (4, .int x4)]) hx hb dX11_goes_108 hl (by decide) rfl (fun ls hl => ?_)
          refine lv_aload_n hx hb dX11_goes_110 rfl (lv_at hl 4 rfl) ?_
          replace h := z_bd h
          obtain ⟨r47, hq, h⟩ := h
          refine z_cvi (As := []) C0 hml hl.1 hW hS (c_X11_firstWaiting l D A b u46 hq) mv_X11_278 rfl ⟨Nat.le_of_ble_eq_true rfl, Nat.le_of_ble_eq_true rfl⟩ rfl rfl (Nat.le_of_ble_eq_true rfl) dX11_goes_111 (fun H locs hW hS => ?_)
          clear hq
          refine lv_istore (lv' := [(9, .int r47), (8, .int r45), (7, .int z44), (6, .int r43), (5, .int z41), (0, .ref (b + 0)), (1, .int x1), (2, .int x2), (3, .int x3), (4, .int x4)]) hx hb dX11_goes_114 hl (by decide) rfl (fun ls hl => ?_)
          exact l_X11_goes_116 C0 hr hml hlk (fun q0 q1 q2 q3 q4 q5 q6 q7 h hW hS hl => ih q0 q1 q2 q3 q4 q5 q6 q7 h hW hS hl) 5000 _ _ _ _ _ _ _ _ _ _ _ _ h hW hS (lv_sub hl [5, 6, 7, 8, 9, 3, 2, 1, 0] rfl)
        · replace h := z_f h hc
          clear hc
          refine lv_aload_n hx hb dX11_goes_70 rfl (lv_at hl 2 rfl) ?_
          refine z_getr (o := 1) C0 hW fl_X11_7 rfl rfl rfl dX11_goes_71 ?_
          refine lv_bipush (v := (13 : Int32)) hx hb dX11_goes_74 (by decide) ?_
          refine lv_aload_n hx hb dX11_goes_76 rfl (lv_at hl 2 rfl) ?_
          refine lv_iload hx hb dX11_goes_77 (lv_at hl 0 rfl) ?_
          refine lv_iconst (v := (3 : Int32)) hx hb dX11_goes_79 (by decide) ?_
          replace h := z_bd h
          obtain ⟨r48, hq, h⟩ := h
          refine z_cvi (As := [.int r43, .int (3 : Int32)]) C0 hml hl.1 hW hS (c_X11_of l D A b r43 (3 : Int32) u42 hq) mv_X11_49 rfl ⟨Nat.le_of_ble_eq_true rfl, Nat.le_of_ble_eq_true rfl⟩ rfl rfl (Nat.le_of_ble_eq_true rfl) dX11_goes_80 (fun H locs hW hS => ?_)
          clear hq
          refine lv_iadd hx hb dX11_goes_83 ?_
          refine lv_topi (fun z49 e1 => ?_)
          replace h := z_ly h e1
          clear e1
          refine lv_dup2_11 hx hb dX11_goes_84 rfl rfl ?_
          replace h := z_if h
          obtain ⟨hin, h⟩ := h
          refine z_iald (n := 705) C0 hW rfl rfl hin rfl dX11_goes_85 ?_
          clear hin
          refine lv_topi (fun z50 e1 => ?_)
          replace h := z_ly h e1
          clear e1
          refine lv_iconst (v := (1 : Int32)) hx hb dX11_goes_86 (by decide) ?_
          refine lv_iadd hx hb dX11_goes_87 ?_
          replace h := z_if h
          obtain ⟨hin, h⟩ := h
          refine z_iast (n := 705) C0 hW hS rfl rfl hin rfl dX11_goes_88 (fun H locs u51 e1 hW hS => ?_)
          replace h := z_ly h e1
          clear e1
          refine lv_aload_n hx hb dX11_goes_89 rfl (lv_at hl 2 rfl) ?_
          refine z_getr (o := 1) C0 hW fl_X11_7 rfl rfl rfl dX11_goes_90 ?_
          refine lv_iconst (v := (4 : Int32)) hx hb dX11_goes_93 (by decide) ?_
          refine z_iald (k := 4) (n := 705) C0 hW rfl rfl (by decide) (by decide) dX11_goes_94 ?_
          refine lv_iconst (v := (4 : Int32)) hx hb dX11_goes_95 (by decide) ?_
          refine lv_iadd hx hb dX11_goes_96 ?_
          refine lv_bipush (v := (8 : Int32)) hx hb dX11_goes_97 (by decide) ?_
          refine lv_irem hx hb dX11_goes_99 (by decide) ?_
          refine lv_topi (fun z52 e1 => ?_)
          replace h := z_ly h e1
          clear e1
          refine lv_istore (lv' := [(7, .int z52), (6, .int r43), (5, .int z41), (0, .ref (b + 0)), (1, .int x1), (2, .int x2), (3, .int x3), (4, .int x4)]) hx hb dX11_goes_100 hl (by decide) rfl (fun ls hl => ?_)
          refine lv_aload_n hx hb dX11_goes_102 rfl (lv_at hl 3 rfl) ?_
          refine lv_iload hx hb dX11_goes_103 (lv_at hl 0 rfl) ?_
          replace h := z_bd2 h
          obtain ⟨r53, u54, hq, h⟩ := h
          refine z_cvi (As := [.int z52]) C0 hml hl.1 hW hS (c_X11_collects l D A b z52 u51 hq) mv_X11_275 rfl ⟨Nat.le_of_ble_eq_true rfl, Nat.le_of_ble_eq_true rfl⟩ rfl rfl (Nat.le_of_ble_eq_true rfl) dX11_goes_105 (fun H locs hW hS => ?_)
          clear hq
          refine lv_istore (lv' := [(8, .int r53), (7, .int z52), (6, .int r43), (5, .int z41), (0, .ref (b + 0)), (1, .int x1), (2, .int x2), (3, .int x3), (4, .int x4)]) hx hb dX11_goes_108 hl (by decide) rfl (fun ls hl => ?_)
          refine lv_aload_n hx hb dX11_goes_110 rfl (lv_at hl 4 rfl) ?_
          replace h := z_bd h
          obtain ⟨r55, hq, h⟩ := h
          refine z_cvi (As := []) C0 hml hl.1 hW hS (c_X11_firstWaiting l D A b u54 hq) mv_X11_278 rfl ⟨Nat.le_of_ble_eq_true rfl, Nat.le_of_ble_eq_true rfl⟩ rfl rfl (Nat.le_of_ble_eq_true rfl) dX11_goes_111 (fun H locs hW hS => ?_)
          clear hq
          refine lv_istore (lv' := [(9, .int r55), (8, .int r53), (7, .int z52), (6, .int r43), (5, .int z41), (0, .ref (b + 0)), (1, .int x1), (2, .int x2), (3, .int x3), (4, .int x4)]) hx hb dX11_goes_114 hl (by decide) rfl (fun ls hl => ?_)
          exact l_X11_goes_116 C0 hr hml hlk (fun q0 q1 q2 q3 q4 q5 q6 q7 h hW hS hl => ih q0 q1 q2 q3 q4 q5 q6 q7 h hW hS hl) 5000 _ _ _ _ _ _ _ _ _ _ _ _ h hW hS (lv_sub hl [5, 6, 7, 8, 9, 3, 2, 1, 0] rfl)
theorem f_X11_goes_e (a1 : Int32) (a2 : Int32) (u : zU) : f_X11_goes a1 a2 u = f_X11_goes_5 5000 a1 a2 (0 : Int32) (0 : Int32) u := rfl
set_option maxRecDepth 100000 in
set_option maxHeartbeats 4000000 in
theorem c_X11_goes (l : Launch) (D : zD) (A : Nat → Prop) (b : Nat) (a1 : Int32) (a2 : Int32) (u : zU) {v : Int32} {u' : zU} (h : f_X11_goes a1 a2 u = some (v, u')) : z_M l D A b gM yX11_goes cX11_goes 10 (some .int) 44 1398 [.ref (b + 0), .int a1, .int a2] u (some (.int v)) u' := by
  refine z_enter (by decide) (Nat.le_of_ble_eq_true rfl) ?_
  intro p e s m below meth c ls C0 hr hml hlk hW hS hl
  have hl : lv_has ls 10 [(0, .ref (b + 0)), (1, .int a1), (2, .int a2)] := hl
  have hx := C0.1
  have hb := C0.2.1
  rw [f_X11_goes_e] at h
  refine lv_iconst (v := (0 : Int32)) hx hb dX11_goes_0 (by decide) ?_
  refine lv_istore_n (lv' := [(3, .int (0 : Int32)), (0, .ref (b + 0)), (1, .int a1), (2, .int a2)]) hx hb dX11_goes_1 rfl hl (by decide) rfl (fun ls hl => ?_)
  refine lv_iconst (v := (0 : Int32)) hx hb dX11_goes_2 (by decide) ?_
  refine lv_istore (lv' := [(4, .int (0 : Int32)), (3, .int (0 : Int32)), (0, .ref (b + 0)), (1, .int a1), (2, .int a2)]) hx hb dX11_goes_3 hl (by decide) rfl (fun ls hl => ?_)
  exact l_X11_goes_5 C0 hr hml hlk 5000 _ _ _ _ _ _ _ _ h hW hS (lv_sub hl [2, 3, 4, 1, 0] rfl)
def f_X11_rider_126 : Nat → Int32 → Int32 → Int32 → zU → Option (Int32 × zU)
  | 0, _, _, _, _ => none
  | n + 1, x1, x3, x4, u =>
    if (u 1 3) ≤ x4 then (some (x3, u)) else (if x4 = x1 then (z_let (x3 ||| (0 : Int32)) (fun z4 => f_X11_rider_126 n x1 z4 (x4 + (1 : Int32)) u)) else ((f_X11_waits x4 u).bind (fun t5 => if t5 = true then (z_let (x3 ||| (0 : Int32)) (fun z6 => f_X11_rider_126 n x1 z6 (x4 + (1 : Int32)) u)) else ((f_X11_waits x1 u).bind (fun t7 => if t7 = true then (z_let (x3 ||| (0 : Int32)) (fun z8 => f_X11_rider_126 n x1 z8 (x4 + (1 : Int32)) u)) else ((f_X11_of x4 (0 : Int32) u).bind (fun r9 => z_let (f_X11_heightOf r9 u) (fun r10 => (f_X11_of x1 (0 : Int32) u).bind (fun r11 => z_let (f_X11_heightOf r11 u) (fun r12 => if r10 = r12 then (z_let (x3 ||| ((1 : Int32) <<< (x4 &&& 31))) (fun z14 => f_X11_rider_126 n x1 z14 (x4 + (1 : Int32)) u)) else (z_let (x3 ||| (0 : Int32)) (fun z13 => f_X11_rider_126 n x1 z13 (x4 + (1 : Int32)) u))))))))))))
theorem f_X11_rider_126_s (n : Nat) (x1 : Int32) (x3 : Int32) (x4 : Int32) (u : zU) : f_X11_rider_126 (n + 1) x1 x3 x4 u = if (u 1 3) ≤ x4 then (some (x3, u)) else (if x4 = x1 then (z_let (x3 ||| (0 : Int32)) (fun z4 => f_X11_rider_126 n x1 z4 (x4 + (1 : Int32)) u)) else ((f_X11_waits x4 u).bind (fun t5 => if t5 = true then (z_let (x3 ||| (0 : Int32)) (fun z6 => f_X11_rider_126 n x1 z6 (x4 + (1 : Int32)) u)) else ((f_X11_waits x1 u).bind (fun t7 => if t7 = true then (z_let (x3 ||| (0 : Int32)) (fun z8 => f_X11_rider_126 n x1 z8 (x4 + (1 : Int32)) u)) else ((f_X11_of x4 (0 : Int32) u).bind (fun r9 => z_let (f_X11_heightOf r9 u) (fun r10 => (f_X11_of x1 (0 : Int32) u).bind (fun r11 => z_let (f_X11_heightOf r11 u) (fun r12 => if r10 = r12 then (z_let (x3 ||| ((1 : Int32) <<< (x4 &&& 31))) (fun z14 => f_X11_rider_126 n x1 z14 (x4 + (1 : Int32)) u)) else (z_let (x3 ||| (0 : Int32)) (fun z13 => f_X11_rider_126 n x1 z13 (x4 + (1 : Int32)) u)))))))))))) := rfl
def f_X11_rider (a1 : Int32) (a2 : Int32) (u : zU) : Option (Int32 × zU) :=
  z_let (f_X11_isRider a1 u) (fun t1 => if t1 = true then (z_let (f_X11_isIn a2 (0 : Int32) (7 : Int32) u) (fun t2 => if t2 = true then (z_let (z_up u 0 0 (0 : Int32)) (fun u3 => if (u3 0 0) ≤ 0 then (if (4 : Int32) ≤ a2 then (if a2 = (4 : Int32) then (z_b2 (f_X11_owesBy a1 (u3 1 5) u3) (fun r20 u21 => some (r20, u21))) else (if a2 = (5 : Int32) then ((f_X11_waits a1 u3).bind (fun t17 => if t17 = true then (some ((-1 : Int32), u3)) else ((f_X11_of a1 (0 : Int32) u3).bind (fun r18 => z_let (f_X11_heightOf r18 u3) (fun r19 => some (r19, u3)))))) else (if a2 = (7 : Int32) then ((f_X11_waits a1 u3).bind (fun t15 => if t15 = true then ((f_X11_aheadOf a1 u3).bind (fun r16 => some (r16, u3))) else (some ((-1 : Int32), u3)))) else (f_X11_rider_126 5000 a1 (0 : Int32) (0 : Int32) u3)))) else ((f_X11_of a1 a2 u3).bind (fun r22 => some (r22, u3)))) else (some ((0 : Int32), u3)))) else (z_let (z_up u 0 0 (2 : Int32)) (fun u23 => if (u23 0 0) ≤ 0 then (if (4 : Int32) ≤ a2 then (if a2 = (4 : Int32) then (z_b2 (f_X11_owesBy a1 (u23 1 5) u23) (fun r29 u30 => some (r29, u30))) else (if a2 = (5 : Int32) then ((f_X11_waits a1 u23).bind (fun t26 => if t26 = true then (some ((-1 : Int32), u23)) else ((f_X11_of a1 (0 : Int32) u23).bind (fun r27 => z_let (f_X11_heightOf r27 u23) (fun r28 => some (r28, u23)))))) else (if a2 = (7 : Int32) then ((f_X11_waits a1 u23).bind (fun t24 => if t24 = true then ((f_X11_aheadOf a1 u23).bind (fun r25 => some (r25, u23))) else (some ((-1 : Int32), u23)))) else (f_X11_rider_126 5000 a1 (0 : Int32) (0 : Int32) u23)))) else ((f_X11_of a1 a2 u23).bind (fun r31 => some (r31, u23)))) else (some ((0 : Int32), u23)))))) else (z_let (z_up u 0 0 (1 : Int32)) (fun u32 => if (u32 0 0) ≤ 0 then (if (4 : Int32) ≤ a2 then (if a2 = (4 : Int32) then (z_b2 (f_X11_owesBy a1 (u32 1 5) u32) (fun r38 u39 => some (r38, u39))) else (if a2 = (5 : Int32) then ((f_X11_waits a1 u32).bind (fun t35 => if t35 = true then (some ((-1 : Int32), u32)) else ((f_X11_of a1 (0 : Int32) u32).bind (fun r36 => z_let (f_X11_heightOf r36 u32) (fun r37 => some (r37, u32)))))) else (if a2 = (7 : Int32) then ((f_X11_waits a1 u32).bind (fun t33 => if t33 = true then ((f_X11_aheadOf a1 u32).bind (fun r34 => some (r34, u32))) else (some ((-1 : Int32), u32)))) else (f_X11_rider_126 5000 a1 (0 : Int32) (0 : Int32) u32)))) else ((f_X11_of a1 a2 u32).bind (fun r40 => some (r40, u32)))) else (some ((0 : Int32), u32)))))
set_option maxRecDepth 100000 in
set_option maxHeartbeats 4000000 in
theorem l_X11_rider_126 {l : Launch} {D : zD} {A : Nat → Prop} {b : Nat} {p : Program} {e : Env} {s : State} {m : MethodId} {args : Array Value} {below : List Frame} {meth : Method} {c : Code} {v : Int32} {u' : zU} (C0 : z_C p c cX11_rider s m args yX11_rider.cls D A) (hr : meth.sig.returnType = (some .int)) (hml : c.maxLocals = 5) (hlk : meth.locks = false) : ∀ (n : Nat) (x1 : Int32) (x3 : Int32) (x4 : Int32) (u : zU) (H : Heap) (locs : List Loc) (ls : Array Slot), f_X11_rider_126 n x1 x3 x4 u = some (v, u') → z_W D A b gM u H → va_S A s.heap H locs → lv_has ls 5 [(0, .ref (b + 0)), (1, .int x1), (3, .int x3), (4, .int x4)] → W p l e { frames := 43, cells := 0, slots := 0, locals := 1373 } s m args below meth c H locs 0 0 (z_End D A b gM below args s (some (.int v)) u') (F0 m 126 ls []) := by
  have hx := C0.1
  have hb := C0.2.1
  intro n
  induction n with
  | zero => intro x1 x3 x4 u H locs ls h hW hS hl; cases h
  | succ n ih =>
    intro x1 x3 x4 u H locs ls h hW hS hl
    rw [f_X11_rider_126_s] at h
    refine lv_iload hx hb dX11_rider_126 (lv_at hl 3 rfl) ?_
    refine lv_aload_n hx hb dX11_rider_128 rfl (lv_at hl 0 rfl) ?_
    refine z_getr (o := 1) C0 hW fl_X11_7 rfl rfl rfl dX11_rider_129 ?_
    refine lv_iconst (v := (3 : Int32)) hx hb dX11_rider_132 (by decide) ?_
    refine z_iald (k := 3) (n := 705) C0 hW rfl rfl (by decide) (by decide) dX11_rider_133 ?_
    refine lv_icmp_ge (tgt := 201) hx hb dX11_rider_134 (by decide) (fun hc => ?_) (fun hc => ?_)
    · replace h := z_t h hc
      clear hc
      refine lv_iload_n hx hb dX11_rider_201 rfl (lv_at hl 2 rfl) ?_
      cases h
      exact z_iret C0 hr hlk hW hS dX11_rider_202
    · replace h := z_f h hc
      clear hc
      refine lv_iload_n hx hb dX11_rider_137 rfl (lv_at hl 2 rfl) ?_
      refine lv_iload hx hb dX11_rider_138 (lv_at hl 3 rfl) ?_
      refine lv_iload_n hx hb dX11_rider_140 rfl (lv_at hl 1 rfl) ?_
      refine lv_icmp_eq (tgt := 192) hx hb dX11_rider_141 (by decide) (fun hc => ?_) (fun hc => ?_)
      · replace h := z_t h hc
        clear hc
        refine lv_iconst (v := (0 : Int32)) hx hb dX11_rider_192 (by decide) ?_
        refine lv_ior hx hb dX11_rider_193 ?_
        refine lv_topi (fun z4 e1 => ?_)
        replace h := z_ly h e1
        clear e1
        refine lv_istore_n (lv' := [(3, .int z4), (0, .ref (b + 0)), (1, .int x1), (4, .int x4)]) hx hb dX11_rider_194 rfl hl (by decide) rfl (fun ls hl => ?_)
        refine lv_iinc (v := x4 + (1 : Int32)) (lv' := [(4, .int (x4 + (1 : Int32))), (3, .int z4), (0, .ref (b + 0)), (1, .int x1)]) hx hb dX11_rider_195 hl (k := 3) rfl rfl (by decide) rfl (fun ls hl => ?_)
        refine lv_goto (tgt := 126) hx hb dX11_rider_198 (by decide) ?_
        exact ih _ _ _ _ _ _ _ h hW hS (lv_sub hl [2, 3, 1, 0] rfl)
      · replace h := z_f h hc
        clear hc
        refine lv_aload_n hx hb dX11_rider_144 rfl (lv_at hl 0 rfl) ?_
        refine lv_iload hx hb dX11_rider_145 (lv_at hl 3 rfl) ?_
        replace h := z_bd h
        obtain ⟨t5, hq, h⟩ := h
        refine z_cvi (As := [.int x4]) C0 hml hl.1 hW hS (c_X11_waits l D A b x4 u hq) mv_X11_255 rfl ⟨Nat.le_of_ble_eq_true rfl, Nat.le_of_ble_eq_true rfl⟩ rfl rfl (Nat.le_of_ble_eq_true rfl) dX11_rider_147 (fun H locs hW hS => ?_)
        clear hq
        refine z_ifneZ C0 (tgt := 192) dX11_rider_150 (by decide) (fun hc => ?_) (fun hc => ?_)
        · replace h := z_t h hc
          clear hc
          refine lv_iconst (v := (0 : Int32)) hx hb dX11_rider_192 (by decide) ?_
          refine lv_ior hx hb dX11_rider_193 ?_
          refine lv_topi (fun z6 e1 => ?_)
          replace h := z_ly h e1
          clear e1
          refine lv_istore_n (lv' := [(3, .int z6), (0, .ref (b + 0)), (1, .int x1), (4, .int x4)]) hx hb dX11_rider_194 rfl hl (by decide) rfl (fun ls hl => ?_)
          refine lv_iinc (v := x4 + (1 : Int32)) (lv' := [(4, .int (x4 + (1 : Int32))), (3, .int z6), (0, .ref (b + 0)), (1, .int x1)]) hx hb dX11_rider_195 hl (k := 3) rfl rfl (by decide) rfl (fun ls hl => ?_)
          refine lv_goto (tgt := 126) hx hb dX11_rider_198 (by decide) ?_
          exact ih _ _ _ _ _ _ _ h hW hS (lv_sub hl [2, 3, 1, 0] rfl)
        · replace h := z_ff h hc
          clear hc
          refine lv_aload_n hx hb dX11_rider_153 rfl (lv_at hl 0 rfl) ?_
          refine lv_iload_n hx hb dX11_rider_154 rfl (lv_at hl 1 rfl) ?_
          replace h := z_bd h
          obtain ⟨t7, hq, h⟩ := h
          refine z_cvi (As := [.int x1]) C0 hml hl.1 hW hS (c_X11_waits l D A b x1 u hq) mv_X11_255 rfl ⟨Nat.le_of_ble_eq_true rfl, Nat.le_of_ble_eq_true rfl⟩ rfl rfl (Nat.le_of_ble_eq_true rfl) dX11_rider_155 (fun H locs hW hS => ?_)
          clear hq
          refine z_ifneZ C0 (tgt := 192) dX11_rider_158 (by decide) (fun hc => ?_) (fun hc => ?_)
          · replace h := z_t h hc
            clear hc
            refine lv_iconst (v := (0 : Int32)) hx hb dX11_rider_192 (by decide) ?_
            refine lv_ior hx hb dX11_rider_193 ?_
            refine lv_topi (fun z8 e1 => ?_)
            replace h := z_ly h e1
            clear e1
            refine lv_istore_n (lv' := [(3, .int z8), (0, .ref (b + 0)), (1, .int x1), (4, .int x4)]) hx hb dX11_rider_194 rfl hl (by decide) rfl (fun ls hl => ?_)
            refine lv_iinc (v := x4 + (1 : Int32)) (lv' := [(4, .int (x4 + (1 : Int32))), (3, .int z8), (0, .ref (b + 0)), (1, .int x1)]) hx hb dX11_rider_195 hl (k := 3) rfl rfl (by decide) rfl (fun ls hl => ?_)
            refine lv_goto (tgt := 126) hx hb dX11_rider_198 (by decide) ?_
            exact ih _ _ _ _ _ _ _ h hW hS (lv_sub hl [2, 3, 1, 0] rfl)
          · replace h := z_ff h hc
            clear hc
            refine lv_aload_n hx hb dX11_rider_161 rfl (lv_at hl 0 rfl) ?_
            refine lv_aload_n hx hb dX11_rider_162 rfl (lv_at hl 0 rfl) ?_
            refine lv_iload hx hb dX11_rider_163 (lv_at hl 3 rfl) ?_
            refine lv_iconst (v := (0 : Int32)) hx hb dX11_rider_165 (by decide) ?_
            replace h := z_bd h
            obtain ⟨r9, hq, h⟩ := h
            refine z_cvi (As := [.int x4, .int (0 : Int32)]) C0 hml hl.1 hW hS (c_X11_of l D A b x4 (0 : Int32) u hq) mv_X11_49 rfl ⟨Nat.le_of_ble_eq_true rfl, Nat.le_of_ble_eq_true rfl⟩ rfl rfl (Nat.le_of_ble_eq_true rfl) dX11_rider_166 (fun H locs hW hS => ?_)
            clear hq
            obtain ⟨r10, hq⟩ : ∃ y, f_X11_heightOf r9 u = y := ⟨_, rfl⟩
            replace h := z_lz h hq
            refine z_cvi (As := [.int r9]) C0 hml hl.1 hW hS (c_X11_heightOf l D A b r9 u hq) mv_X11_243 rfl ⟨Nat.le_of_ble_eq_true rfl, Nat.le_of_ble_eq_true rfl⟩ rfl rfl (Nat.le_of_ble_eq_true rfl) dX11_rider_169 (fun H locs hW hS => ?_)
            clear hq
            refine lv_aload_n hx hb dX11_rider_172 rfl (lv_at hl 0 rfl) ?_
            refine lv_aload_n hx hb dX11_rider_173 rfl (lv_at hl 0 rfl) ?_
            refine lv_iload_n hx hb dX11_rider_174 rfl (lv_at hl 1 rfl) ?_
            refine lv_iconst (v := (0 : Int32)) hx hb dX11_rider_175 (by decide) ?_
            replace h := z_bd h
            obtain ⟨r11, hq, h⟩ := h
            refine z_cvi (As := [.int x1, .int (0 : Int32)]) C0 hml hl.1 hW hS (c_X11_of l D A b x1 (0 : Int32) u hq) mv_X11_49 rfl ⟨Nat.le_of_ble_eq_true rfl, Nat.le_of_ble_eq_true rfl⟩ rfl rfl (Nat.le_of_ble_eq_true rfl) dX11_rider_176 (fun H locs hW hS => ?_)
            clear hq
            obtain ⟨r12, hq⟩ : ∃ y, f_X11_heightOf r11 u = y := ⟨_, rfl⟩
            replace h := z_lz h hq
            refine z_cvi (As := [.int r11]) C0 hml hl.1 hW hS (c_X11_heightOf l D A b r11 u hq) mv_X11_243 rfl ⟨Nat.le_of_ble_eq_true rfl, Nat.le_of_ble_eq_true rfl⟩ rfl rfl (Nat.le_of_ble_eq_true rfl) dX11_rider_179 (fun H locs hW hS => ?_)
            clear hq
            refine lv_icmp_ne (tgt := 192) hx hb dX11_rider_182 (by decide) (fun hc => ?_) (fun hc => ?_)
            · replace h := z_f h hc
              clear hc
              refine lv_iconst (v := (0 : Int32)) hx hb dX11_rider_192 (by decide) ?_
              refine lv_ior hx hb dX11_rider_193 ?_
              refine lv_topi (fun z13 e1 => ?_)
              replace h := z_ly h e1
              clear e1
              refine lv_istore_n (lv' := [(3, .int z13), (0, .ref (b + 0)), (1, .int x1), (4, .int x4)]) hx hb dX11_rider_194 rfl hl (by decide) rfl (fun ls hl => ?_)
              refine lv_iinc (v := x4 + (1 : Int32)) (lv' := [(4, .int (x4 + (1 : Int32))), (3, .int z13), (0, .ref (b + 0)), (1, .int x1)]) hx hb dX11_rider_195 hl (k := 3) rfl rfl (by decide) rfl (fun ls hl => ?_)
              refine lv_goto (tgt := 126) hx hb dX11_rider_198 (by decide) ?_
              exact ih _ _ _ _ _ _ _ h hW hS (lv_sub hl [2, 3, 1, 0] rfl)
            · replace h := z_t h hc
              clear hc
              refine lv_iconst (v := (1 : Int32)) hx hb dX11_rider_185 (by decide) ?_
              refine lv_iload hx hb dX11_rider_186 (lv_at hl 3 rfl) ?_
              refine lv_ishl hx hb dX11_rider_188 ?_
              refine lv_goto (tgt := 193) hx hb dX11_rider_189 (by decide) ?_
              refine lv_ior hx hb dX11_rider_193 ?_
              refine lv_topi (fun z14 e1 => ?_)
              replace h := z_ly h e1
              clear e1
              refine lv_istore_n (lv' := [(3, .int z14), (0, .ref (b + 0)), (1, .int x1), (4, .int x4)]) hx hb dX11_rider_194 rfl hl (by decide) rfl (fun ls hl => ?_)
              refine lv_iinc (v := x4 + (1 : Int32)) (lv' := [(4, .int (x4 + (1 : Int32))), (3, .int z14), (0, .ref (b + 0)), (1, .int x1)]) hx hb dX11_rider_195 hl (k := 3) rfl rfl (by decide) rfl (fun ls hl => ?_)
              refine lv_goto (tgt := 126) hx hb dX11_rider_198 (by decide) ?_
              exact ih _ _ _ _ _ _ _ h hW hS (lv_sub hl [2, 3, 1, 0] rfl)
theorem f_X11_rider_e (a1 : Int32) (a2 : Int32) (u : zU) : f_X11_rider a1 a2 u = z_let (f_X11_isRider a1 u) (fun t1 => if t1 = true then (z_let (f_X11_isIn a2 (0 : Int32) (7 : Int32) u) (fun t2 => if t2 = true then (z_let (z_up u 0 0 (0 : Int32)) (fun u3 => if (u3 0 0) ≤ 0 then (if (4 : Int32) ≤ a2 then (if a2 = (4 : Int32) then (z_b2 (f_X11_owesBy a1 (u3 1 5) u3) (fun r20 u21 => some (r20, u21))) else (if a2 = (5 : Int32) then ((f_X11_waits a1 u3).bind (fun t17 => if t17 = true then (some ((-1 : Int32), u3)) else ((f_X11_of a1 (0 : Int32) u3).bind (fun r18 => z_let (f_X11_heightOf r18 u3) (fun r19 => some (r19, u3)))))) else (if a2 = (7 : Int32) then ((f_X11_waits a1 u3).bind (fun t15 => if t15 = true then ((f_X11_aheadOf a1 u3).bind (fun r16 => some (r16, u3))) else (some ((-1 : Int32), u3)))) else (f_X11_rider_126 5000 a1 (0 : Int32) (0 : Int32) u3)))) else ((f_X11_of a1 a2 u3).bind (fun r22 => some (r22, u3)))) else (some ((0 : Int32), u3)))) else (z_let (z_up u 0 0 (2 : Int32)) (fun u23 => if (u23 0 0) ≤ 0 then (if (4 : Int32) ≤ a2 then (if a2 = (4 : Int32) then (z_b2 (f_X11_owesBy a1 (u23 1 5) u23) (fun r29 u30 => some (r29, u30))) else (if a2 = (5 : Int32) then ((f_X11_waits a1 u23).bind (fun t26 => if t26 = true then (some ((-1 : Int32), u23)) else ((f_X11_of a1 (0 : Int32) u23).bind (fun r27 => z_let (f_X11_heightOf r27 u23) (fun r28 => some (r28, u23)))))) else (if a2 = (7 : Int32) then ((f_X11_waits a1 u23).bind (fun t24 => if t24 = true then ((f_X11_aheadOf a1 u23).bind (fun r25 => some (r25, u23))) else (some ((-1 : Int32), u23)))) else (f_X11_rider_126 5000 a1 (0 : Int32) (0 : Int32) u23)))) else ((f_X11_of a1 a2 u23).bind (fun r31 => some (r31, u23)))) else (some ((0 : Int32), u23)))))) else (z_let (z_up u 0 0 (1 : Int32)) (fun u32 => if (u32 0 0) ≤ 0 then (if (4 : Int32) ≤ a2 then (if a2 = (4 : Int32) then (z_b2 (f_X11_owesBy a1 (u32 1 5) u32) (fun r38 u39 => some (r38, u39))) else (if a2 = (5 : Int32) then ((f_X11_waits a1 u32).bind (fun t35 => if t35 = true then (some ((-1 : Int32), u32)) else ((f_X11_of a1 (0 : Int32) u32).bind (fun r36 => z_let (f_X11_heightOf r36 u32) (fun r37 => some (r37, u32)))))) else (if a2 = (7 : Int32) then ((f_X11_waits a1 u32).bind (fun t33 => if t33 = true then ((f_X11_aheadOf a1 u32).bind (fun r34 => some (r34, u32))) else (some ((-1 : Int32), u32)))) else (f_X11_rider_126 5000 a1 (0 : Int32) (0 : Int32) u32)))) else ((f_X11_of a1 a2 u32).bind (fun r40 => some (r40, u32)))) else (some ((0 : Int32), u32))))) := rfl
set_option maxRecDepth 100000 in
set_option maxHeartbeats 4000000 in
theorem c_X11_rider (l : Launch) (D : zD) (A : Nat → Prop) (b : Nat) (a1 : Int32) (a2 : Int32) (u : zU) {v : Int32} {u' : zU} (h : f_X11_rider a1 a2 u = some (v, u')) : z_M l D A b gM yX11_rider cX11_rider 5 (some .int) 43 1373 [.ref (b + 0), .int a1, .int a2] u (some (.int v)) u' := by
  refine z_enter (by decide) (Nat.le_of_ble_eq_true rfl) ?_
  intro p e s m below meth c ls C0 hr hml hlk hW hS hl
  have hl : lv_has ls 5 [(0, .ref (b + 0)), (1, .int a1), (2, .int a2)] := hl
  have hx := C0.1
  have hb := C0.2.1
  rw [f_X11_rider_e] at h
  refine lv_aload_n hx hb dX11_rider_0 rfl (lv_at hl 0 rfl) ?_
  refine lv_aload_n hx hb dX11_rider_1 rfl (lv_at hl 0 rfl) ?_
  refine lv_iload_n hx hb dX11_rider_2 rfl (lv_at hl 1 rfl) ?_
  obtain ⟨t1, hq⟩ : ∃ y, f_X11_isRider a1 u = y := ⟨_, rfl⟩
  replace h := z_lz h hq
  refine z_cvi (As := [.int a1]) C0 hml hl.1 hW hS (c_X11_isRider l D A b a1 u hq) mv_X11_291 rfl ⟨Nat.le_of_ble_eq_true rfl, Nat.le_of_ble_eq_true rfl⟩ rfl rfl (Nat.le_of_ble_eq_true rfl) dX11_rider_3 (fun H locs hW hS => ?_)
  clear hq
  refine z_ifneZ C0 (tgt := 13) dX11_rider_6 (by decide) (fun hc => ?_) (fun hc => ?_)
  · replace h := z_t h hc
    clear hc
    refine lv_iload_n hx hb dX11_rider_13 rfl (lv_at hl 2 rfl) ?_
    refine lv_iconst (v := (0 : Int32)) hx hb dX11_rider_14 (by decide) ?_
    refine lv_bipush (v := (7 : Int32)) hx hb dX11_rider_15 (by decide) ?_
    obtain ⟨t2, hq⟩ : ∃ y, f_X11_isIn a2 (0 : Int32) (7 : Int32) u = y := ⟨_, rfl⟩
    replace h := z_lz h hq
    refine z_csi (As := [.int a2, .int (0 : Int32), .int (7 : Int32)]) C0 hml hl.1 hW hS (c_X11_isIn l D A b a2 (0 : Int32) (7 : Int32) u hq) ms_X11_45 ⟨Nat.le_of_ble_eq_true rfl, Nat.le_of_ble_eq_true rfl⟩ rfl rfl (Nat.le_of_ble_eq_true rfl) dX11_rider_17 (fun H locs hW hS => ?_)
    clear hq
    refine z_ifneZ C0 (tgt := 27) dX11_rider_20 (by decide) (fun hc => ?_) (fun hc => ?_)
    · replace h := z_t h hc
      clear hc
      refine lv_iconst (v := (0 : Int32)) hx hb dX11_rider_27 (by decide) ?_
      refine z_puti C0 hW hS fl_X11_42 rfl rfl rfl rfl dX11_rider_28 (fun H locs u3 e1 hW hS => ?_)
      replace h := z_ly h e1
      clear e1
      refine lv_aload_n hx hb dX11_rider_31 rfl (lv_at hl 0 rfl) ?_
      refine z_geti C0 hW fl_X11_42 rfl rfl dX11_rider_32 ?_
      refine lv_if_le (tgt := 40) hx hb dX11_rider_35 (by decide) (fun hc => ?_) (fun hc => ?_)
      · replace h := z_t h hc
        clear hc
        refine lv_iload_n hx hb dX11_rider_40 rfl (lv_at hl 2 rfl) ?_
        refine lv_iconst (v := (4 : Int32)) hx hb dX11_rider_41 (by decide) ?_
        refine lv_icmp_ge (tgt := 52) hx hb dX11_rider_42 (by decide) (fun hc => ?_) (fun hc => ?_)
        · replace h := z_t h hc
          clear hc
          refine lv_iload_n hx hb dX11_rider_52 rfl (lv_at hl 2 rfl) ?_
          refine lv_iconst (v := (4 : Int32)) hx hb dX11_rider_53 (by decide) ?_
          refine lv_icmp_ne (tgt := 69) hx hb dX11_rider_54 (by decide) (fun hc => ?_) (fun hc => ?_)
          · replace h := z_f h hc
            clear hc
            refine lv_iload_n hx hb dX11_rider_69 rfl (lv_at hl 2 rfl) ?_
            refine lv_iconst (v := (5 : Int32)) hx hb dX11_rider_70 (by decide) ?_
            refine lv_icmp_ne (tgt := 97) hx hb dX11_rider_71 (by decide) (fun hc => ?_) (fun hc => ?_)
            · replace h := z_f h hc
              clear hc
              refine lv_iload_n hx hb dX11_rider_97 rfl (lv_at hl 2 rfl) ?_
              refine lv_bipush (v := (7 : Int32)) hx hb dX11_rider_98 (by decide) ?_
              refine lv_icmp_ne (tgt := 121) hx hb dX11_rider_100 (by decide) (fun hc => ?_) (fun hc => ?_)
              · replace h := z_f h hc
                clear hc
                refine lv_iconst (v := (0 : Int32)) hx hb dX11_rider_121 (by decide) ?_
                refine lv_istore_n (lv' := [(3, .int (0 : Int32)), (0, .ref (b + 0)), (1, .int a1), (2, .int a2)]) hx hb dX11_rider_122 rfl hl (by decide) rfl (fun ls hl => ?_)
                refine lv_iconst (v := (0 : Int32)) hx hb dX11_rider_123 (by decide) ?_
                refine lv_istore (lv' := [(4, .int (0 : Int32)), (3, .int (0 : Int32)), (0, .ref (b + 0)), (1, .int a1), (2, .int a2)]) hx hb dX11_rider_124 hl (by decide) rfl (fun ls hl => ?_)
                exact l_X11_rider_126 C0 hr hml hlk 5000 _ _ _ _ _ _ _ h hW hS (lv_sub hl [2, 3, 1, 0] rfl)
              · replace h := z_t h hc
                clear hc
                refine lv_aload_n hx hb dX11_rider_103 rfl (lv_at hl 0 rfl) ?_
                refine lv_iload_n hx hb dX11_rider_104 rfl (lv_at hl 1 rfl) ?_
                replace h := z_bd h
                obtain ⟨t15, hq, h⟩ := h
                refine z_cvi (As := [.int a1]) C0 hml hl.1 hW hS (c_X11_waits l D A b a1 u3 hq) mv_X11_255 rfl ⟨Nat.le_of_ble_eq_true rfl, Nat.le_of_ble_eq_true rfl⟩ rfl rfl (Nat.le_of_ble_eq_true rfl) dX11_rider_105 (fun H locs hW hS => ?_)
                clear hq
                refine z_ifeqZ C0 (tgt := 119) dX11_rider_108 (by decide) (fun hc => ?_) (fun hc => ?_)
                · replace h := z_ff h hc
                  clear hc
                  refine lv_iconst (v := (-1 : Int32)) hx hb dX11_rider_119 (by decide) ?_
                  cases h
                  exact z_iret C0 hr hlk hW hS dX11_rider_120
                · replace h := z_t h hc
                  clear hc
                  refine lv_aload_n hx hb dX11_rider_111 rfl (lv_at hl 0 rfl) ?_
                  refine lv_iload_n hx hb dX11_rider_112 rfl (lv_at hl 1 rfl) ?_
                  replace h := z_bd h
                  obtain ⟨r16, hq, h⟩ := h
                  refine z_cvi (As := [.int a1]) C0 hml hl.1 hW hS (c_X11_aheadOf l D A b a1 u3 hq) mv_X11_70 rfl ⟨Nat.le_of_ble_eq_true rfl, Nat.le_of_ble_eq_true rfl⟩ rfl rfl (Nat.le_of_ble_eq_true rfl) dX11_rider_113 (fun H locs hW hS => ?_)
                  clear hq
                  refine lv_goto (tgt := 120) hx hb dX11_rider_116 (by decide) ?_
                  cases h
                  exact z_iret C0 hr hlk hW hS dX11_rider_120
            · replace h := z_t h hc
              clear hc
              refine lv_aload_n hx hb dX11_rider_74 rfl (lv_at hl 0 rfl) ?_
              refine lv_iload_n hx hb dX11_rider_75 rfl (lv_at hl 1 rfl) ?_
              replace h := z_bd h
              obtain ⟨t17, hq, h⟩ := h
              refine z_cvi (As := [.int a1]) C0 hml hl.1 hW hS (c_X11_waits l D A b a1 u3 hq) mv_X11_255 rfl ⟨Nat.le_of_ble_eq_true rfl, Nat.le_of_ble_eq_true rfl⟩ rfl rfl (Nat.le_of_ble_eq_true rfl) dX11_rider_76 (fun H locs hW hS => ?_)
              clear hq
              refine z_ifeqZ C0 (tgt := 86) dX11_rider_79 (by decide) (fun hc => ?_) (fun hc => ?_)
              · replace h := z_ff h hc
                clear hc
                refine lv_aload_n hx hb dX11_rider_86 rfl (lv_at hl 0 rfl) ?_
                refine lv_aload_n hx hb dX11_rider_87 rfl (lv_at hl 0 rfl) ?_
                refine lv_iload_n hx hb dX11_rider_88 rfl (lv_at hl 1 rfl) ?_
                refine lv_iconst (v := (0 : Int32)) hx hb dX11_rider_89 (by decide) ?_
                replace h := z_bd h
                obtain ⟨r18, hq, h⟩ := h
                refine z_cvi (As := [.int a1, .int (0 : Int32)]) C0 hml hl.1 hW hS (c_X11_of l D A b a1 (0 : Int32) u3 hq) mv_X11_49 rfl ⟨Nat.le_of_ble_eq_true rfl, Nat.le_of_ble_eq_true rfl⟩ rfl rfl (Nat.le_of_ble_eq_true rfl) dX11_rider_90 (fun H locs hW hS => ?_)
                clear hq
                obtain ⟨r19, hq⟩ : ∃ y, f_X11_heightOf r18 u3 = y := ⟨_, rfl⟩
                replace h := z_lz h hq
                refine z_cvi (As := [.int r18]) C0 hml hl.1 hW hS (c_X11_heightOf l D A b r18 u3 hq) mv_X11_243 rfl ⟨Nat.le_of_ble_eq_true rfl, Nat.le_of_ble_eq_true rfl⟩ rfl rfl (Nat.le_of_ble_eq_true rfl) dX11_rider_93 (fun H locs hW hS => ?_)
                clear hq
                cases h
                exact z_iret C0 hr hlk hW hS dX11_rider_96
              · replace h := z_t h hc
                clear hc
                refine lv_iconst (v := (-1 : Int32)) hx hb dX11_rider_82 (by decide) ?_
                refine lv_goto (tgt := 96) hx hb dX11_rider_83 (by decide) ?_
                cases h
                exact z_iret C0 hr hlk hW hS dX11_rider_96
          · replace h := z_t h hc
            clear hc
            refine lv_aload_n hx hb dX11_rider_57 rfl (lv_at hl 0 rfl) ?_
            refine lv_iload_n hx hb dX11_rider_58 rfl (lv_at hl 1 rfl) ?_
            refine lv_aload_n hx hb dX11_rider_59 rfl (lv_at hl 0 rfl) ?_
            refine z_getr (o := 1) C0 hW fl_X11_7 rfl rfl rfl dX11_rider_60 ?_
            refine lv_iconst (v := (5 : Int32)) hx hb dX11_rider_63 (by decide) ?_
            refine z_iald (k := 5) (n := 705) C0 hW rfl rfl (by decide) (by decide) dX11_rider_64 ?_
            replace h := z_bd2 h
            obtain ⟨r20, u21, hq, h⟩ := h
            refine z_cvi (As := [.int a1, .int (u3 1 5)]) C0 hml hl.1 hW hS (c_X11_owesBy l D A b a1 (u3 1 5) u3 hq) mv_X11_266 rfl ⟨Nat.le_of_ble_eq_true rfl, Nat.le_of_ble_eq_true rfl⟩ rfl rfl (Nat.le_of_ble_eq_true rfl) dX11_rider_65 (fun H locs hW hS => ?_)
            clear hq
            cases h
            exact z_iret C0 hr hlk hW hS dX11_rider_68
        · replace h := z_f h hc
          clear hc
          refine lv_aload_n hx hb dX11_rider_45 rfl (lv_at hl 0 rfl) ?_
          refine lv_iload_n hx hb dX11_rider_46 rfl (lv_at hl 1 rfl) ?_
          refine lv_iload_n hx hb dX11_rider_47 rfl (lv_at hl 2 rfl) ?_
          replace h := z_bd h
          obtain ⟨r22, hq, h⟩ := h
          refine z_cvi (As := [.int a1, .int a2]) C0 hml hl.1 hW hS (c_X11_of l D A b a1 a2 u3 hq) mv_X11_49 rfl ⟨Nat.le_of_ble_eq_true rfl, Nat.le_of_ble_eq_true rfl⟩ rfl rfl (Nat.le_of_ble_eq_true rfl) dX11_rider_48 (fun H locs hW hS => ?_)
          clear hq
          cases h
          exact z_iret C0 hr hlk hW hS dX11_rider_51
      · replace h := z_f h hc
        clear hc
        refine lv_iconst (v := (0 : Int32)) hx hb dX11_rider_38 (by decide) ?_
        cases h
        exact z_iret C0 hr hlk hW hS dX11_rider_39
    · replace h := z_ff h hc
      clear hc
      refine lv_iconst (v := (2 : Int32)) hx hb dX11_rider_23 (by decide) ?_
      refine lv_goto (tgt := 28) hx hb dX11_rider_24 (by decide) ?_
      refine z_puti C0 hW hS fl_X11_42 rfl rfl rfl rfl dX11_rider_28 (fun H locs u23 e1 hW hS => ?_)
      replace h := z_ly h e1
      clear e1
      refine lv_aload_n hx hb dX11_rider_31 rfl (lv_at hl 0 rfl) ?_
      refine z_geti C0 hW fl_X11_42 rfl rfl dX11_rider_32 ?_
      refine lv_if_le (tgt := 40) hx hb dX11_rider_35 (by decide) (fun hc => ?_) (fun hc => ?_)
      · replace h := z_t h hc
        clear hc
        refine lv_iload_n hx hb dX11_rider_40 rfl (lv_at hl 2 rfl) ?_
        refine lv_iconst (v := (4 : Int32)) hx hb dX11_rider_41 (by decide) ?_
        refine lv_icmp_ge (tgt := 52) hx hb dX11_rider_42 (by decide) (fun hc => ?_) (fun hc => ?_)
        · replace h := z_t h hc
          clear hc
          refine lv_iload_n hx hb dX11_rider_52 rfl (lv_at hl 2 rfl) ?_
          refine lv_iconst (v := (4 : Int32)) hx hb dX11_rider_53 (by decide) ?_
          refine lv_icmp_ne (tgt := 69) hx hb dX11_rider_54 (by decide) (fun hc => ?_) (fun hc => ?_)
          · replace h := z_f h hc
            clear hc
            refine lv_iload_n hx hb dX11_rider_69 rfl (lv_at hl 2 rfl) ?_
            refine lv_iconst (v := (5 : Int32)) hx hb dX11_rider_70 (by decide) ?_
            refine lv_icmp_ne (tgt := 97) hx hb dX11_rider_71 (by decide) (fun hc => ?_) (fun hc => ?_)
            · replace h := z_f h hc
              clear hc
              refine lv_iload_n hx hb dX11_rider_97 rfl (lv_at hl 2 rfl) ?_
              refine lv_bipush (v := (7 : Int32)) hx hb dX11_rider_98 (by decide) ?_
              refine lv_icmp_ne (tgt := 121) hx hb dX11_rider_100 (by decide) (fun hc => ?_) (fun hc => ?_)
              · replace h := z_f h hc
                clear hc
                refine lv_iconst (v := (0 : Int32)) hx hb dX11_rider_121 (by decide) ?_
                refine lv_istore_n (lv' := [(3, .int (0 : Int32)), (0, .ref (b + 0)), (1, .int a1), (2, .int a2)]) hx hb dX11_rider_122 rfl hl (by decide) rfl (fun ls hl => ?_)
                refine lv_iconst (v := (0 : Int32)) hx hb dX11_rider_123 (by decide) ?_
                refine lv_istore (lv' := [(4, .int (0 : Int32)), (3, .int (0 : Int32)), (0, .ref (b + 0)), (1, .int a1), (2, .int a2)]) hx hb dX11_rider_124 hl (by decide) rfl (fun ls hl => ?_)
                exact l_X11_rider_126 C0 hr hml hlk 5000 _ _ _ _ _ _ _ h hW hS (lv_sub hl [2, 3, 1, 0] rfl)
              · replace h := z_t h hc
                clear hc
                refine lv_aload_n hx hb dX11_rider_103 rfl (lv_at hl 0 rfl) ?_
                refine lv_iload_n hx hb dX11_rider_104 rfl (lv_at hl 1 rfl) ?_
                replace h := z_bd h
                obtain ⟨t24, hq, h⟩ := h
                refine z_cvi (As := [.int a1]) C0 hml hl.1 hW hS (c_X11_waits l D A b a1 u23 hq) mv_X11_255 rfl ⟨Nat.le_of_ble_eq_true rfl, Nat.le_of_ble_eq_true rfl⟩ rfl rfl (Nat.le_of_ble_eq_true rfl) dX11_rider_105 (fun H locs hW hS => ?_)
                clear hq
                refine z_ifeqZ C0 (tgt := 119) dX11_rider_108 (by decide) (fun hc => ?_) (fun hc => ?_)
                · replace h := z_ff h hc
                  clear hc
                  refine lv_iconst (v := (-1 : Int32)) hx hb dX11_rider_119 (by decide) ?_
                  cases h
                  exact z_iret C0 hr hlk hW hS dX11_rider_120
                · replace h := z_t h hc
                  clear hc
                  refine lv_aload_n hx hb dX11_rider_111 rfl (lv_at hl 0 rfl) ?_
                  refine lv_iload_n hx hb dX11_rider_112 rfl (lv_at hl 1 rfl) ?_
                  replace h := z_bd h
                  obtain ⟨r25, hq, h⟩ := h
                  refine z_cvi (As := [.int a1]) C0 hml hl.1 hW hS (c_X11_aheadOf l D A b a1 u23 hq) mv_X11_70 rfl ⟨Nat.le_of_ble_eq_true rfl, Nat.le_of_ble_eq_true rfl⟩ rfl rfl (Nat.le_of_ble_eq_true rfl) dX11_rider_113 (fun H locs hW hS => ?_)
                  clear hq
                  refine lv_goto (tgt := 120) hx hb dX11_rider_116 (by decide) ?_
                  cases h
                  exact z_iret C0 hr hlk hW hS dX11_rider_120
            · replace h := z_t h hc
              clear hc
              refine lv_aload_n hx hb dX11_rider_74 rfl (lv_at hl 0 rfl) ?_
              refine lv_iload_n hx hb dX11_rider_75 rfl (lv_at hl 1 rfl) ?_
              replace h := z_bd h
              obtain ⟨t26, hq, h⟩ := h
              refine z_cvi (As := [.int a1]) C0 hml hl.1 hW hS (c_X11_waits l D A b a1 u23 hq) mv_X11_255 rfl ⟨Nat.le_of_ble_eq_true rfl, Nat.le_of_ble_eq_true rfl⟩ rfl rfl (Nat.le_of_ble_eq_true rfl) dX11_rider_76 (fun H locs hW hS => ?_)
              clear hq
              refine z_ifeqZ C0 (tgt := 86) dX11_rider_79 (by decide) (fun hc => ?_) (fun hc => ?_)
              · replace h := z_ff h hc
                clear hc
                refine lv_aload_n hx hb dX11_rider_86 rfl (lv_at hl 0 rfl) ?_
                refine lv_aload_n hx hb dX11_rider_87 rfl (lv_at hl 0 rfl) ?_
                refine lv_iload_n hx hb dX11_rider_88 rfl (lv_at hl 1 rfl) ?_
                refine lv_iconst (v := (0 : Int32)) hx hb dX11_rider_89 (by decide) ?_
                replace h := z_bd h
                obtain ⟨r27, hq, h⟩ := h
                refine z_cvi (As := [.int a1, .int (0 : Int32)]) C0 hml hl.1 hW hS (c_X11_of l D A b a1 (0 : Int32) u23 hq) mv_X11_49 rfl ⟨Nat.le_of_ble_eq_true rfl, Nat.le_of_ble_eq_true rfl⟩ rfl rfl (Nat.le_of_ble_eq_true rfl) dX11_rider_90 (fun H locs hW hS => ?_)
                clear hq
                obtain ⟨r28, hq⟩ : ∃ y, f_X11_heightOf r27 u23 = y := ⟨_, rfl⟩
                replace h := z_lz h hq
                refine z_cvi (As := [.int r27]) C0 hml hl.1 hW hS (c_X11_heightOf l D A b r27 u23 hq) mv_X11_243 rfl ⟨Nat.le_of_ble_eq_true rfl, Nat.le_of_ble_eq_true rfl⟩ rfl rfl (Nat.le_of_ble_eq_true rfl) dX11_rider_93 (fun H locs hW hS => ?_)
                clear hq
                cases h
                exact z_iret C0 hr hlk hW hS dX11_rider_96
              · replace h := z_t h hc
                clear hc
                refine lv_iconst (v := (-1 : Int32)) hx hb dX11_rider_82 (by decide) ?_
                refine lv_goto (tgt := 96) hx hb dX11_rider_83 (by decide) ?_
                cases h
                exact z_iret C0 hr hlk hW hS dX11_rider_96
          · replace h := z_t h hc
            clear hc
            refine lv_aload_n hx hb dX11_rider_57 rfl (lv_at hl 0 rfl) ?_
            refine lv_iload_n hx hb dX11_rider_58 rfl (lv_at hl 1 rfl) ?_
            refine lv_aload_n hx hb dX11_rider_59 rfl (lv_at hl 0 rfl) ?_
            refine z_getr (o := 1) C0 hW fl_X11_7 rfl rfl rfl dX11_rider_60 ?_
            refine lv_iconst (v := (5 : Int32)) hx hb dX11_rider_63 (by decide) ?_
            refine z_iald (k := 5) (n := 705) C0 hW rfl rfl (by decide) (by decide) dX11_rider_64 ?_
            replace h := z_bd2 h
            obtain ⟨r29, u30, hq, h⟩ := h
            refine z_cvi (As := [.int a1, .int (u23 1 5)]) C0 hml hl.1 hW hS (c_X11_owesBy l D A b a1 (u23 1 5) u23 hq) mv_X11_266 rfl ⟨Nat.le_of_ble_eq_true rfl, Nat.le_of_ble_eq_true rfl⟩ rfl rfl (Nat.le_of_ble_eq_true rfl) dX11_rider_65 (fun H locs hW hS => ?_)
            clear hq
            cases h
            exact z_iret C0 hr hlk hW hS dX11_rider_68
        · replace h := z_f h hc
          clear hc
          refine lv_aload_n hx hb dX11_rider_45 rfl (lv_at hl 0 rfl) ?_
          refine lv_iload_n hx hb dX11_rider_46 rfl (lv_at hl 1 rfl) ?_
          refine lv_iload_n hx hb dX11_rider_47 rfl (lv_at hl 2 rfl) ?_
          replace h := z_bd h
          obtain ⟨r31, hq, h⟩ := h
          refine z_cvi (As := [.int a1, .int a2]) C0 hml hl.1 hW hS (c_X11_of l D A b a1 a2 u23 hq) mv_X11_49 rfl ⟨Nat.le_of_ble_eq_true rfl, Nat.le_of_ble_eq_true rfl⟩ rfl rfl (Nat.le_of_ble_eq_true rfl) dX11_rider_48 (fun H locs hW hS => ?_)
          clear hq
          cases h
          exact z_iret C0 hr hlk hW hS dX11_rider_51
      · replace h := z_f h hc
        clear hc
        refine lv_iconst (v := (0 : Int32)) hx hb dX11_rider_38 (by decide) ?_
        cases h
        exact z_iret C0 hr hlk hW hS dX11_rider_39
  · replace h := z_ff h hc
    clear hc
    refine lv_iconst (v := (1 : Int32)) hx hb dX11_rider_9 (by decide) ?_
    refine lv_goto (tgt := 28) hx hb dX11_rider_10 (by decide) ?_
    refine z_puti C0 hW hS fl_X11_42 rfl rfl rfl rfl dX11_rider_28 (fun H locs u32 e1 hW hS => ?_)
    replace h := z_ly h e1
    clear e1
    refine lv_aload_n hx hb dX11_rider_31 rfl (lv_at hl 0 rfl) ?_
    refine z_geti C0 hW fl_X11_42 rfl rfl dX11_rider_32 ?_
    refine lv_if_le (tgt := 40) hx hb dX11_rider_35 (by decide) (fun hc => ?_) (fun hc => ?_)
    · replace h := z_t h hc
      clear hc
      refine lv_iload_n hx hb dX11_rider_40 rfl (lv_at hl 2 rfl) ?_
      refine lv_iconst (v := (4 : Int32)) hx hb dX11_rider_41 (by decide) ?_
      refine lv_icmp_ge (tgt := 52) hx hb dX11_rider_42 (by decide) (fun hc => ?_) (fun hc => ?_)
      · replace h := z_t h hc
        clear hc
        refine lv_iload_n hx hb dX11_rider_52 rfl (lv_at hl 2 rfl) ?_
        refine lv_iconst (v := (4 : Int32)) hx hb dX11_rider_53 (by decide) ?_
        refine lv_icmp_ne (tgt := 69) hx hb dX11_rider_54 (by decide) (fun hc => ?_) (fun hc => ?_)
        · replace h := z_f h hc
          clear hc
          refine lv_iload_n hx hb dX11_rider_69 rfl (lv_at hl 2 rfl) ?_
          refine lv_iconst (v := (5 : Int32)) hx hb dX11_rider_70 (by decide) ?_
          refine lv_icmp_ne (tgt := 97) hx hb dX11_rider_71 (by decide) (fun hc => ?_) (fun hc => ?_)
          · replace h := z_f h hc
            clear hc
            refine lv_iload_n hx hb dX11_rider_97 rfl (lv_at hl 2 rfl) ?_
            refine lv_bipush (v := (7 : Int32)) hx hb dX11_rider_98 (by decide) ?_
            refine lv_icmp_ne (tgt := 121) hx hb dX11_rider_100 (by decide) (fun hc => ?_) (fun hc => ?_)
            · replace h := z_f h hc
              clear hc
              refine lv_iconst (v := (0 : Int32)) hx hb dX11_rider_121 (by decide) ?_
              refine lv_istore_n (lv' := [(3, .int (0 : Int32)), (0, .ref (b + 0)), (1, .int a1), (2, .int a2)]) hx hb dX11_rider_122 rfl hl (by decide) rfl (fun ls hl => ?_)
              refine lv_iconst (v := (0 : Int32)) hx hb dX11_rider_123 (by decide) ?_
              refine lv_istore (lv' := [(4, .int (0 : Int32)), (3, .int (0 : Int32)), (0, .ref (b + 0)), (1, .int a1), (2, .int a2)]) hx hb dX11_rider_124 hl (by decide) rfl (fun ls hl => ?_)
              exact l_X11_rider_126 C0 hr hml hlk 5000 _ _ _ _ _ _ _ h hW hS (lv_sub hl [2, 3, 1, 0] rfl)
            · replace h := z_t h hc
              clear hc
              refine lv_aload_n hx hb dX11_rider_103 rfl (lv_at hl 0 rfl) ?_
              refine lv_iload_n hx hb dX11_rider_104 rfl (lv_at hl 1 rfl) ?_
              replace h := z_bd h
              obtain ⟨t33, hq, h⟩ := h
              refine z_cvi (As := [.int a1]) C0 hml hl.1 hW hS (c_X11_waits l D A b a1 u32 hq) mv_X11_255 rfl ⟨Nat.le_of_ble_eq_true rfl, Nat.le_of_ble_eq_true rfl⟩ rfl rfl (Nat.le_of_ble_eq_true rfl) dX11_rider_105 (fun H locs hW hS => ?_)
              clear hq
              refine z_ifeqZ C0 (tgt := 119) dX11_rider_108 (by decide) (fun hc => ?_) (fun hc => ?_)
              · replace h := z_ff h hc
                clear hc
                refine lv_iconst (v := (-1 : Int32)) hx hb dX11_rider_119 (by decide) ?_
                cases h
                exact z_iret C0 hr hlk hW hS dX11_rider_120
              · replace h := z_t h hc
                clear hc
                refine lv_aload_n hx hb dX11_rider_111 rfl (lv_at hl 0 rfl) ?_
                refine lv_iload_n hx hb dX11_rider_112 rfl (lv_at hl 1 rfl) ?_
                replace h := z_bd h
                obtain ⟨r34, hq, h⟩ := h
                refine z_cvi (As := [.int a1]) C0 hml hl.1 hW hS (c_X11_aheadOf l D A b a1 u32 hq) mv_X11_70 rfl ⟨Nat.le_of_ble_eq_true rfl, Nat.le_of_ble_eq_true rfl⟩ rfl rfl (Nat.le_of_ble_eq_true rfl) dX11_rider_113 (fun H locs hW hS => ?_)
                clear hq
                refine lv_goto (tgt := 120) hx hb dX11_rider_116 (by decide) ?_
                cases h
                exact z_iret C0 hr hlk hW hS dX11_rider_120
          · replace h := z_t h hc
            clear hc
            refine lv_aload_n hx hb dX11_rider_74 rfl (lv_at hl 0 rfl) ?_
            refine lv_iload_n hx hb dX11_rider_75 rfl (lv_at hl 1 rfl) ?_
            replace h := z_bd h
            obtain ⟨t35, hq, h⟩ := h
            refine z_cvi (As := [.int a1]) C0 hml hl.1 hW hS (c_X11_waits l D A b a1 u32 hq) mv_X11_255 rfl ⟨Nat.le_of_ble_eq_true rfl, Nat.le_of_ble_eq_true rfl⟩ rfl rfl (Nat.le_of_ble_eq_true rfl) dX11_rider_76 (fun H locs hW hS => ?_)
            clear hq
            refine z_ifeqZ C0 (tgt := 86) dX11_rider_79 (by decide) (fun hc => ?_) (fun hc => ?_)
            · replace h := z_ff h hc
              clear hc
              refine lv_aload_n hx hb dX11_rider_86 rfl (lv_at hl 0 rfl) ?_
              refine lv_aload_n hx hb dX11_rider_87 rfl (lv_at hl 0 rfl) ?_
              refine lv_iload_n hx hb dX11_rider_88 rfl (lv_at hl 1 rfl) ?_
              refine lv_iconst (v := (0 : Int32)) hx hb dX11_rider_89 (by decide) ?_
              replace h := z_bd h
              obtain ⟨r36, hq, h⟩ := h
              refine z_cvi (As := [.int a1, .int (0 : Int32)]) C0 hml hl.1 hW hS (c_X11_of l D A b a1 (0 : Int32) u32 hq) mv_X11_49 rfl ⟨Nat.le_of_ble_eq_true rfl, Nat.le_of_ble_eq_true rfl⟩ rfl rfl (Nat.le_of_ble_eq_true rfl) dX11_rider_90 (fun H locs hW hS => ?_)
              clear hq
              obtain ⟨r37, hq⟩ : ∃ y, f_X11_heightOf r36 u32 = y := ⟨_, rfl⟩
              replace h := z_lz h hq
              refine z_cvi (As := [.int r36]) C0 hml hl.1 hW hS (c_X11_heightOf l D A b r36 u32 hq) mv_X11_243 rfl ⟨Nat.le_of_ble_eq_true rfl, Nat.le_of_ble_eq_true rfl⟩ rfl rfl (Nat.le_of_ble_eq_true rfl) dX11_rider_93 (fun H locs hW hS => ?_)
              clear hq
              cases h
              exact z_iret C0 hr hlk hW hS dX11_rider_96
            · replace h := z_t h hc
              clear hc
              refine lv_iconst (v := (-1 : Int32)) hx hb dX11_rider_82 (by decide) ?_
              refine lv_goto (tgt := 96) hx hb dX11_rider_83 (by decide) ?_
              cases h
              exact z_iret C0 hr hlk hW hS dX11_rider_96
        · replace h := z_t h hc
          clear hc
          refine lv_aload_n hx hb dX11_rider_57 rfl (lv_at hl 0 rfl) ?_
          refine lv_iload_n hx hb dX11_rider_58 rfl (lv_at hl 1 rfl) ?_
          refine lv_aload_n hx hb dX11_rider_59 rfl (lv_at hl 0 rfl) ?_
          refine z_getr (o := 1) C0 hW fl_X11_7 rfl rfl rfl dX11_rider_60 ?_
          refine lv_iconst (v := (5 : Int32)) hx hb dX11_rider_63 (by decide) ?_
          refine z_iald (k := 5) (n := 705) C0 hW rfl rfl (by decide) (by decide) dX11_rider_64 ?_
          replace h := z_bd2 h
          obtain ⟨r38, u39, hq, h⟩ := h
          refine z_cvi (As := [.int a1, .int (u32 1 5)]) C0 hml hl.1 hW hS (c_X11_owesBy l D A b a1 (u32 1 5) u32 hq) mv_X11_266 rfl ⟨Nat.le_of_ble_eq_true rfl, Nat.le_of_ble_eq_true rfl⟩ rfl rfl (Nat.le_of_ble_eq_true rfl) dX11_rider_65 (fun H locs hW hS => ?_)
          clear hq
          cases h
          exact z_iret C0 hr hlk hW hS dX11_rider_68
      · replace h := z_f h hc
        clear hc
        refine lv_aload_n hx hb dX11_rider_45 rfl (lv_at hl 0 rfl) ?_
        refine lv_iload_n hx hb dX11_rider_46 rfl (lv_at hl 1 rfl) ?_
        refine lv_iload_n hx hb dX11_rider_47 rfl (lv_at hl 2 rfl) ?_
        replace h := z_bd h
        obtain ⟨r40, hq, h⟩ := h
        refine z_cvi (As := [.int a1, .int a2]) C0 hml hl.1 hW hS (c_X11_of l D A b a1 a2 u32 hq) mv_X11_49 rfl ⟨Nat.le_of_ble_eq_true rfl, Nat.le_of_ble_eq_true rfl⟩ rfl rfl (Nat.le_of_ble_eq_true rfl) dX11_rider_48 (fun H locs hW hS => ?_)
        clear hq
        cases h
        exact z_iret C0 hr hlk hW hS dX11_rider_51
    · replace h := z_f h hc
      clear hc
      refine lv_iconst (v := (0 : Int32)) hx hb dX11_rider_38 (by decide) ?_
      cases h
      exact z_iret C0 hr hlk hW hS dX11_rider_39
def f_X11_farther  (u : zU) : Option (Int32 × zU) :=
  z_let (z_up u 0 0 (0 : Int32)) (fun u1 => z_b2 (f_X11_fartherNow u1) (fun r2 u3 => some (r2, u3)))
theorem f_X11_farther_e  (u : zU) : f_X11_farther u = z_let (z_up u 0 0 (0 : Int32)) (fun u1 => z_b2 (f_X11_fartherNow u1) (fun r2 u3 => some (r2, u3))) := rfl
set_option maxRecDepth 100000 in
set_option maxHeartbeats 4000000 in
theorem c_X11_farther (l : Launch) (D : zD) (A : Nat → Prop) (b : Nat)  (u : zU) {v : Int32} {u' : zU} (h : f_X11_farther u = some (v, u')) : z_M l D A b gM yX11_farther cX11_farther 1 (some .int) 43 1371 [.ref (b + 0)] u (some (.int v)) u' := by
  refine z_enter (by decide) (Nat.le_of_ble_eq_true rfl) ?_
  intro p e s m below meth c ls C0 hr hml hlk hW hS hl
  have hl : lv_has ls 1 [(0, .ref (b + 0))] := hl
  have hx := C0.1
  have hb := C0.2.1
  rw [f_X11_farther_e] at h
  refine lv_aload_n hx hb dX11_farther_0 rfl (lv_at hl 0 rfl) ?_
  refine lv_iconst (v := (0 : Int32)) hx hb dX11_farther_1 (by decide) ?_
  refine z_puti C0 hW hS fl_X11_42 rfl rfl rfl rfl dX11_farther_2 (fun H locs u1 e1 hW hS => ?_)
  replace h := z_ly h e1
  clear e1
  refine lv_aload_n hx hb dX11_farther_5 rfl (lv_at hl 0 rfl) ?_
  replace h := z_bd2 h
  obtain ⟨r2, u3, hq, h⟩ := h
  refine z_cvi (As := []) C0 hml hl.1 hW hS (c_X11_fartherNow l D A b u1 hq) mv_X11_272 rfl ⟨Nat.le_of_ble_eq_true rfl, Nat.le_of_ble_eq_true rfl⟩ rfl rfl (Nat.le_of_ble_eq_true rfl) dX11_farther_6 (fun H locs hW hS => ?_)
  clear hq
  cases h
  exact z_iret C0 hr hlk hW hS dX11_farther_9
def f_X11_stops (a1 : Int32) (u : zU) : Option (Int32 × zU) :=
  z_let (f_X11_isIn a1 (1 : Int32) (60 : Int32) u) (fun t1 => if t1 = true then (z_let (z_up u 0 0 (0 : Int32)) (fun u2 => if (u2 0 0) ≤ 0 then ((f_X11_remembers u2).bind (fun u3 => z_b2 (f_X11_goes a1 (-1 : Int32) u3) (fun r4 u5 => some (r4, u5)))) else (some ((0 : Int32), u2)))) else (z_let (z_up u 0 0 (1 : Int32)) (fun u6 => if (u6 0 0) ≤ 0 then ((f_X11_remembers u6).bind (fun u7 => z_b2 (f_X11_goes a1 (-1 : Int32) u7) (fun r8 u9 => some (r8, u9)))) else (some ((0 : Int32), u6)))))
theorem f_X11_stops_e (a1 : Int32) (u : zU) : f_X11_stops a1 u = z_let (f_X11_isIn a1 (1 : Int32) (60 : Int32) u) (fun t1 => if t1 = true then (z_let (z_up u 0 0 (0 : Int32)) (fun u2 => if (u2 0 0) ≤ 0 then ((f_X11_remembers u2).bind (fun u3 => z_b2 (f_X11_goes a1 (-1 : Int32) u3) (fun r4 u5 => some (r4, u5)))) else (some ((0 : Int32), u2)))) else (z_let (z_up u 0 0 (1 : Int32)) (fun u6 => if (u6 0 0) ≤ 0 then ((f_X11_remembers u6).bind (fun u7 => z_b2 (f_X11_goes a1 (-1 : Int32) u7) (fun r8 u9 => some (r8, u9)))) else (some ((0 : Int32), u6))))) := rfl
set_option maxRecDepth 100000 in
set_option maxHeartbeats 4000000 in
theorem c_X11_stops (l : Launch) (D : zD) (A : Nat → Prop) (b : Nat) (a1 : Int32) (u : zU) {v : Int32} {u' : zU} (h : f_X11_stops a1 u = some (v, u')) : z_M l D A b gM yX11_stops cX11_stops 2 (some .int) 45 1427 [.ref (b + 0), .int a1] u (some (.int v)) u' := by
  refine z_enter (by decide) (Nat.le_of_ble_eq_true rfl) ?_
  intro p e s m below meth c ls C0 hr hml hlk hW hS hl
  have hl : lv_has ls 2 [(0, .ref (b + 0)), (1, .int a1)] := hl
  have hx := C0.1
  have hb := C0.2.1
  rw [f_X11_stops_e] at h
  refine lv_aload_n hx hb dX11_stops_0 rfl (lv_at hl 0 rfl) ?_
  refine lv_iload_n hx hb dX11_stops_1 rfl (lv_at hl 1 rfl) ?_
  refine lv_iconst (v := (1 : Int32)) hx hb dX11_stops_2 (by decide) ?_
  refine lv_bipush (v := (60 : Int32)) hx hb dX11_stops_3 (by decide) ?_
  obtain ⟨t1, hq⟩ : ∃ y, f_X11_isIn a1 (1 : Int32) (60 : Int32) u = y := ⟨_, rfl⟩
  replace h := z_lz h hq
  refine z_csi (As := [.int a1, .int (1 : Int32), .int (60 : Int32)]) C0 hml hl.1 hW hS (c_X11_isIn l D A b a1 (1 : Int32) (60 : Int32) u hq) ms_X11_45 ⟨Nat.le_of_ble_eq_true rfl, Nat.le_of_ble_eq_true rfl⟩ rfl rfl (Nat.le_of_ble_eq_true rfl) dX11_stops_5 (fun H locs hW hS => ?_)
  clear hq
  refine z_ifneZ C0 (tgt := 15) dX11_stops_8 (by decide) (fun hc => ?_) (fun hc => ?_)
  · replace h := z_t h hc
    clear hc
    refine lv_iconst (v := (0 : Int32)) hx hb dX11_stops_15 (by decide) ?_
    refine z_puti C0 hW hS fl_X11_42 rfl rfl rfl rfl dX11_stops_16 (fun H locs u2 e1 hW hS => ?_)
    replace h := z_ly h e1
    clear e1
    refine lv_aload_n hx hb dX11_stops_19 rfl (lv_at hl 0 rfl) ?_
    refine z_geti C0 hW fl_X11_42 rfl rfl dX11_stops_20 ?_
    refine lv_if_le (tgt := 28) hx hb dX11_stops_23 (by decide) (fun hc => ?_) (fun hc => ?_)
    · replace h := z_t h hc
      clear hc
      refine lv_aload_n hx hb dX11_stops_28 rfl (lv_at hl 0 rfl) ?_
      replace h := z_bd h
      obtain ⟨u3, hq, h⟩ := h
      refine z_cvv (As := []) C0 hml hl.1 hW hS (c_X11_remembers l D A b u2 hq) mv_X11_318 rfl ⟨Nat.le_of_ble_eq_true rfl, Nat.le_of_ble_eq_true rfl⟩ rfl rfl (Nat.le_of_ble_eq_true rfl) dX11_stops_29 (fun H locs hW hS => ?_)
      clear hq
      refine lv_aload_n hx hb dX11_stops_32 rfl (lv_at hl 0 rfl) ?_
      refine lv_iload_n hx hb dX11_stops_33 rfl (lv_at hl 1 rfl) ?_
      refine lv_iconst (v := (-1 : Int32)) hx hb dX11_stops_34 (by decide) ?_
      replace h := z_bd2 h
      obtain ⟨r4, u5, hq, h⟩ := h
      refine z_cvi (As := [.int a1, .int (-1 : Int32)]) C0 hml hl.1 hW hS (c_X11_goes l D A b a1 (-1 : Int32) u3 hq) mv_X11_321 rfl ⟨Nat.le_of_ble_eq_true rfl, Nat.le_of_ble_eq_true rfl⟩ rfl rfl (Nat.le_of_ble_eq_true rfl) dX11_stops_35 (fun H locs hW hS => ?_)
      clear hq
      cases h
      exact z_iret C0 hr hlk hW hS dX11_stops_38
    · replace h := z_f h hc
      clear hc
      refine lv_iconst (v := (0 : Int32)) hx hb dX11_stops_26 (by decide) ?_
      cases h
      exact z_iret C0 hr hlk hW hS dX11_stops_27
  · replace h := z_ff h hc
    clear hc
    refine lv_iconst (v := (1 : Int32)) hx hb dX11_stops_11 (by decide) ?_
    refine lv_goto (tgt := 16) hx hb dX11_stops_12 (by decide) ?_
    refine z_puti C0 hW hS fl_X11_42 rfl rfl rfl rfl dX11_stops_16 (fun H locs u6 e1 hW hS => ?_)
    replace h := z_ly h e1
    clear e1
    refine lv_aload_n hx hb dX11_stops_19 rfl (lv_at hl 0 rfl) ?_
    refine z_geti C0 hW fl_X11_42 rfl rfl dX11_stops_20 ?_
    refine lv_if_le (tgt := 28) hx hb dX11_stops_23 (by decide) (fun hc => ?_) (fun hc => ?_)
    · replace h := z_t h hc
      clear hc
      refine lv_aload_n hx hb dX11_stops_28 rfl (lv_at hl 0 rfl) ?_
      replace h := z_bd h
      obtain ⟨u7, hq, h⟩ := h
      refine z_cvv (As := []) C0 hml hl.1 hW hS (c_X11_remembers l D A b u6 hq) mv_X11_318 rfl ⟨Nat.le_of_ble_eq_true rfl, Nat.le_of_ble_eq_true rfl⟩ rfl rfl (Nat.le_of_ble_eq_true rfl) dX11_stops_29 (fun H locs hW hS => ?_)
      clear hq
      refine lv_aload_n hx hb dX11_stops_32 rfl (lv_at hl 0 rfl) ?_
      refine lv_iload_n hx hb dX11_stops_33 rfl (lv_at hl 1 rfl) ?_
      refine lv_iconst (v := (-1 : Int32)) hx hb dX11_stops_34 (by decide) ?_
      replace h := z_bd2 h
      obtain ⟨r8, u9, hq, h⟩ := h
      refine z_cvi (As := [.int a1, .int (-1 : Int32)]) C0 hml hl.1 hW hS (c_X11_goes l D A b a1 (-1 : Int32) u7 hq) mv_X11_321 rfl ⟨Nat.le_of_ble_eq_true rfl, Nat.le_of_ble_eq_true rfl⟩ rfl rfl (Nat.le_of_ble_eq_true rfl) dX11_stops_35 (fun H locs hW hS => ?_)
      clear hq
      cases h
      exact z_iret C0 hr hlk hW hS dX11_stops_38
    · replace h := z_f h hc
      clear hc
      refine lv_iconst (v := (0 : Int32)) hx hb dX11_stops_26 (by decide) ?_
      cases h
      exact z_iret C0 hr hlk hW hS dX11_stops_27
def f_X11_keeps_54 : Nat → Int32 → Int32 → Int32 → Int32 → zU → Option (Int32 × zU)
  | 0, _, _, _, _, _ => none
  | n + 1, x1, x4, x5, x6, u =>
    if (u 1 3) ≤ x6 then (some (x5, u)) else ((f_X11_of x6 (3 : Int32) u).bind (fun r2 => if r2 = x1 then ((f_X11_waits x6 u).bind (fun t3 => if t3 = true then (f_X11_keeps_54 n x1 x4 x5 (x6 + (1 : Int32)) u) else ((f_X11_of x6 (2 : Int32) u).bind (fun r4 => z_b2 (f_X11_owesBy x6 x4 u) (fun r5 u6 => z_let (f_X11_greater (0 : Int32) (r4 - r5) u6) (fun r7 => z_let (x5 + r7) (fun z8 => f_X11_keeps_54 n x1 x4 z8 (x6 + (1 : Int32)) u6))))))) else (f_X11_keeps_54 n x1 x4 x5 (x6 + (1 : Int32)) u)))
theorem f_X11_keeps_54_s (n : Nat) (x1 : Int32) (x4 : Int32) (x5 : Int32) (x6 : Int32) (u : zU) : f_X11_keeps_54 (n + 1) x1 x4 x5 x6 u = if (u 1 3) ≤ x6 then (some (x5, u)) else ((f_X11_of x6 (3 : Int32) u).bind (fun r2 => if r2 = x1 then ((f_X11_waits x6 u).bind (fun t3 => if t3 = true then (f_X11_keeps_54 n x1 x4 x5 (x6 + (1 : Int32)) u) else ((f_X11_of x6 (2 : Int32) u).bind (fun r4 => z_b2 (f_X11_owesBy x6 x4 u) (fun r5 u6 => z_let (f_X11_greater (0 : Int32) (r4 - r5) u6) (fun r7 => z_let (x5 + r7) (fun z8 => f_X11_keeps_54 n x1 x4 z8 (x6 + (1 : Int32)) u6))))))) else (f_X11_keeps_54 n x1 x4 x5 (x6 + (1 : Int32)) u))) := rfl
def f_X11_keeps (a1 : Int32) (a2 : Int32) (a3 : Int32) (u : zU) : Option (Int32 × zU) :=
  if a2 = a3 then (if a2 = 0 then (z_let (f_X11_lesser (99 : Int32) ((u 1 5) + (1 : Int32)) u) (fun r9 => f_X11_keeps_54 5000 a1 r9 (0 : Int32) (0 : Int32) u)) else (z_let (f_X11_greater (0 : Int32) ((u 1 5) - (1 : Int32)) u) (fun r1 => f_X11_keeps_54 5000 a1 r1 (0 : Int32) (0 : Int32) u))) else (z_let (u 1 5) (fun z10 => f_X11_keeps_54 5000 a1 z10 (0 : Int32) (0 : Int32) u))
set_option maxRecDepth 100000 in
set_option maxHeartbeats 4000000 in
theorem l_X11_keeps_54 {l : Launch} {D : zD} {A : Nat → Prop} {b : Nat} {p : Program} {e : Env} {s : State} {m : MethodId} {args : Array Value} {below : List Frame} {meth : Method} {c : Code} {v : Int32} {u' : zU} (C0 : z_C p c cX11_keeps s m args yX11_keeps.cls D A) (hr : meth.sig.returnType = (some .int)) (hml : c.maxLocals = 7) (hlk : meth.locks = false) : ∀ (n : Nat) (x1 : Int32) (x4 : Int32) (x5 : Int32) (x6 : Int32) (u : zU) (H : Heap) (locs : List Loc) (ls : Array Slot), f_X11_keeps_54 n x1 x4 x5 x6 u = some (v, u') → z_W D A b gM u H → va_S A s.heap H locs → lv_has ls 7 [(0, .ref (b + 0)), (1, .int x1), (4, .int x4), (5, .int x5), (6, .int x6)] → W p l e { frames := 43, cells := 0, slots := 0, locals := 1373 } s m args below meth c H locs 0 0 (z_End D A b gM below args s (some (.int v)) u') (F0 m 54 ls []) := by
  have hx := C0.1
  have hb := C0.2.1
  intro n
  induction n with
  | zero => intro x1 x4 x5 x6 u H locs ls h hW hS hl; cases h
  | succ n ih =>
    intro x1 x4 x5 x6 u H locs ls h hW hS hl
    rw [f_X11_keeps_54_s] at h
    refine lv_iload hx hb dX11_keeps_54 (lv_at hl 4 rfl) ?_
    refine lv_aload_n hx hb dX11_keeps_56 rfl (lv_at hl 0 rfl) ?_
    refine z_getr (o := 1) C0 hW fl_X11_7 rfl rfl rfl dX11_keeps_57 ?_
    refine lv_iconst (v := (3 : Int32)) hx hb dX11_keeps_60 (by decide) ?_
    refine z_iald (k := 3) (n := 705) C0 hW rfl rfl (by decide) (by decide) dX11_keeps_61 ?_
    refine lv_icmp_ge (tgt := 116) hx hb dX11_keeps_62 (by decide) (fun hc => ?_) (fun hc => ?_)
    · replace h := z_t h hc
      clear hc
      refine lv_iload hx hb dX11_keeps_116 (lv_at hl 3 rfl) ?_
      cases h
      exact z_iret C0 hr hlk hW hS dX11_keeps_118
    · replace h := z_f h hc
      clear hc
      refine lv_aload_n hx hb dX11_keeps_65 rfl (lv_at hl 0 rfl) ?_
      refine lv_iload hx hb dX11_keeps_66 (lv_at hl 4 rfl) ?_
      refine lv_iconst (v := (3 : Int32)) hx hb dX11_keeps_68 (by decide) ?_
      replace h := z_bd h
      obtain ⟨r2, hq, h⟩ := h
      refine z_cvi (As := [.int x6, .int (3 : Int32)]) C0 hml hl.1 hW hS (c_X11_of l D A b x6 (3 : Int32) u hq) mv_X11_49 rfl ⟨Nat.le_of_ble_eq_true rfl, Nat.le_of_ble_eq_true rfl⟩ rfl rfl (Nat.le_of_ble_eq_true rfl) dX11_keeps_69 (fun H locs hW hS => ?_)
      clear hq
      refine lv_iload_n hx hb dX11_keeps_72 rfl (lv_at hl 1 rfl) ?_
      refine lv_icmp_ne (tgt := 110) hx hb dX11_keeps_73 (by decide) (fun hc => ?_) (fun hc => ?_)
      · replace h := z_f h hc
        clear hc
        refine lv_iinc (v := x6 + (1 : Int32)) (lv' := [(6, .int (x6 + (1 : Int32))), (0, .ref (b + 0)), (1, .int x1), (4, .int x4), (5, .int x5)]) hx hb dX11_keeps_110 hl (k := 4) rfl rfl (by decide) rfl (fun ls hl => ?_)
        refine lv_goto (tgt := 54) hx hb dX11_keeps_113 (by decide) ?_
        exact ih _ _ _ _ _ _ _ _ h hW hS (lv_sub hl [1, 2, 3, 4, 0] rfl)
      · replace h := z_t h hc
        clear hc
        refine lv_aload_n hx hb dX11_keeps_76 rfl (lv_at hl 0 rfl) ?_
        refine lv_iload hx hb dX11_keeps_77 (lv_at hl 4 rfl) ?_
        replace h := z_bd h
        obtain ⟨t3, hq, h⟩ := h
        refine z_cvi (As := [.int x6]) C0 hml hl.1 hW hS (c_X11_waits l D A b x6 u hq) mv_X11_255 rfl ⟨Nat.le_of_ble_eq_true rfl, Nat.le_of_ble_eq_true rfl⟩ rfl rfl (Nat.le_of_ble_eq_true rfl) dX11_keeps_79 (fun H locs hW hS => ?_)
        clear hq
        refine z_ifneZ C0 (tgt := 110) dX11_keeps_82 (by decide) (fun hc => ?_) (fun hc => ?_)
        · replace h := z_t h hc
          clear hc
          refine lv_iinc (v := x6 + (1 : Int32)) (lv' := [(6, .int (x6 + (1 : Int32))), (0, .ref (b + 0)), (1, .int x1), (4, .int x4), (5, .int x5)]) hx hb dX11_keeps_110 hl (k := 4) rfl rfl (by decide) rfl (fun ls hl => ?_)
          refine lv_goto (tgt := 54) hx hb dX11_keeps_113 (by decide) ?_
          exact ih _ _ _ _ _ _ _ _ h hW hS (lv_sub hl [1, 2, 3, 4, 0] rfl)
        · replace h := z_ff h hc
          clear hc
          refine lv_iload hx hb dX11_keeps_85 (lv_at hl 3 rfl) ?_
          refine lv_iconst (v := (0 : Int32)) hx hb dX11_keeps_87 (by decide) ?_
          refine lv_aload_n hx hb dX11_keeps_88 rfl (lv_at hl 0 rfl) ?_
          refine lv_iload hx hb dX11_keeps_89 (lv_at hl 4 rfl) ?_
          refine lv_iconst (v := (2 : Int32)) hx hb dX11_keeps_91 (by decide) ?_
          replace h := z_bd h
          obtain ⟨r4, hq, h⟩ := h
          refine z_cvi (As := [.int x6, .int (2 : Int32)]) C0 hml hl.1 hW hS (c_X11_of l D A b x6 (2 : Int32) u hq) mv_X11_49 rfl ⟨Nat.le_of_ble_eq_true rfl, Nat.le_of_ble_eq_true rfl⟩ rfl rfl (Nat.le_of_ble_eq_true rfl) dX11_keeps_92 (fun H locs hW hS => ?_)
          clear hq
          refine lv_aload_n hx hb dX11_keeps_95 rfl (lv_at hl 0 rfl) ?_
          refine lv_iload hx hb dX11_keeps_96 (lv_at hl 4 rfl) ?_
          refine lv_iload hx hb dX11_keeps_98 (lv_at hl 2 rfl) ?_
          replace h := z_bd2 h
          obtain ⟨r5, u6, hq, h⟩ := h
          refine z_cvi (As := [.int x6, .int x4]) C0 hml hl.1 hW hS (c_X11_owesBy l D A b x6 x4 u hq) mv_X11_266 rfl ⟨Nat.le_of_ble_eq_true rfl, Nat.le_of_ble_eq_true rfl⟩ rfl rfl (Nat.le_of_ble_eq_true rfl) dX11_keeps_100 (fun H locs hW hS => ?_)
          clear hq
          refine lv_isub hx hb dX11_keeps_103 ?_
          obtain ⟨r7, hq⟩ : ∃ y, f_X11_greater (0 : Int32) (r4 - r5) u6 = y := ⟨_, rfl⟩
          replace h := z_lz h hq
          refine z_csi (As := [.int (0 : Int32), .int (r4 - r5)]) C0 hml hl.1 hW hS (c_X11_greater l D A b (0 : Int32) (r4 - r5) u6 hq) ms_X11_258 ⟨Nat.le_of_ble_eq_true rfl, Nat.le_of_ble_eq_true rfl⟩ rfl rfl (Nat.le_of_ble_eq_true rfl) dX11_keeps_104 (fun H locs hW hS => ?_)
          clear hq
          refine lv_iadd hx hb dX11_keeps_107 ?_
          refine lv_topi (fun z8 e1 => ?_)
          replace h := z_ly h e1
          clear e1
          refine lv_istore (lv' := [(5, .int z8), (0, .ref (b + 0)), (1, .int x1), (4, .int x4), (6, .int x6)]) hx hb dX11_keeps_108 hl (by decide) rfl (fun ls hl => ?_)
          refine lv_iinc (v := x6 + (1 : Int32)) (lv' := [(6, .int (x6 + (1 : Int32))), (5, .int z8), (0, .ref (b + 0)), (1, .int x1), (4, .int x4)]) hx hb dX11_keeps_110 hl (k := 4) rfl rfl (by decide) rfl (fun ls hl => ?_)
          refine lv_goto (tgt := 54) hx hb dX11_keeps_113 (by decide) ?_
          exact ih _ _ _ _ _ _ _ _ h hW hS (lv_sub hl [2, 3, 4, 1, 0] rfl)
theorem f_X11_keeps_e (a1 : Int32) (a2 : Int32) (a3 : Int32) (u : zU) : f_X11_keeps a1 a2 a3 u = if a2 = a3 then (if a2 = 0 then (z_let (f_X11_lesser (99 : Int32) ((u 1 5) + (1 : Int32)) u) (fun r9 => f_X11_keeps_54 5000 a1 r9 (0 : Int32) (0 : Int32) u)) else (z_let (f_X11_greater (0 : Int32) ((u 1 5) - (1 : Int32)) u) (fun r1 => f_X11_keeps_54 5000 a1 r1 (0 : Int32) (0 : Int32) u))) else (z_let (u 1 5) (fun z10 => f_X11_keeps_54 5000 a1 z10 (0 : Int32) (0 : Int32) u)) := rfl
set_option maxRecDepth 100000 in
set_option maxHeartbeats 4000000 in
theorem c_X11_keeps (l : Launch) (D : zD) (A : Nat → Prop) (b : Nat) (a1 : Int32) (a2 : Int32) (a3 : Int32) (u : zU) {v : Int32} {u' : zU} (h : f_X11_keeps a1 a2 a3 u = some (v, u')) : z_M l D A b gM yX11_keeps cX11_keeps 7 (some .int) 43 1373 [.ref (b + 0), .int a1, .int a2, .int a3] u (some (.int v)) u' := by
  refine z_enter (by decide) (Nat.le_of_ble_eq_true rfl) ?_
  intro p e s m below meth c ls C0 hr hml hlk hW hS hl
  have hl : lv_has ls 7 [(0, .ref (b + 0)), (1, .int a1), (2, .int a2), (3, .int a3)] := hl
  have hx := C0.1
  have hb := C0.2.1
  rw [f_X11_keeps_e] at h
  refine lv_iload_n hx hb dX11_keeps_0 rfl (lv_at hl 2 rfl) ?_
  refine lv_iload_n hx hb dX11_keeps_1 rfl (lv_at hl 3 rfl) ?_
  refine lv_icmp_eq (tgt := 14) hx hb dX11_keeps_2 (by decide) (fun hc => ?_) (fun hc => ?_)
  · replace h := z_t h hc
    clear hc
    refine lv_iload_n hx hb dX11_keeps_14 rfl (lv_at hl 2 rfl) ?_
    refine lv_if_ne (tgt := 34) hx hb dX11_keeps_15 (by decide) (fun hc => ?_) (fun hc => ?_)
    · replace h := z_f h hc
      clear hc
      refine lv_iconst (v := (0 : Int32)) hx hb dX11_keeps_34 (by decide) ?_
      refine lv_aload_n hx hb dX11_keeps_35 rfl (lv_at hl 0 rfl) ?_
      refine z_getr (o := 1) C0 hW fl_X11_7 rfl rfl rfl dX11_keeps_36 ?_
      refine lv_iconst (v := (5 : Int32)) hx hb dX11_keeps_39 (by decide) ?_
      refine z_iald (k := 5) (n := 705) C0 hW rfl rfl (by decide) (by decide) dX11_keeps_40 ?_
      refine lv_iconst (v := (1 : Int32)) hx hb dX11_keeps_41 (by decide) ?_
      refine lv_isub hx hb dX11_keeps_42 ?_
      obtain ⟨r1, hq⟩ : ∃ y, f_X11_greater (0 : Int32) ((u 1 5) - (1 : Int32)) u = y := ⟨_, rfl⟩
      replace h := z_lz h hq
      refine z_csi (As := [.int (0 : Int32), .int ((u 1 5) - (1 : Int32))]) C0 hml hl.1 hW hS (c_X11_greater l D A b (0 : Int32) ((u 1 5) - (1 : Int32)) u hq) ms_X11_258 ⟨Nat.le_of_ble_eq_true rfl, Nat.le_of_ble_eq_true rfl⟩ rfl rfl (Nat.le_of_ble_eq_true rfl) dX11_keeps_43 (fun H locs hW hS => ?_)
      clear hq
      refine lv_istore (lv' := [(4, .int r1), (0, .ref (b + 0)), (1, .int a1), (2, .int a2), (3, .int a3)]) hx hb dX11_keeps_46 hl (by decide) rfl (fun ls hl => ?_)
      refine lv_iconst (v := (0 : Int32)) hx hb dX11_keeps_48 (by decide) ?_
      refine lv_istore (lv' := [(5, .int (0 : Int32)), (4, .int r1), (0, .ref (b + 0)), (1, .int a1), (2, .int a2), (3, .int a3)]) hx hb dX11_keeps_49 hl (by decide) rfl (fun ls hl => ?_)
      refine lv_iconst (v := (0 : Int32)) hx hb dX11_keeps_51 (by decide) ?_
      refine lv_istore (lv' := [(6, .int (0 : Int32)), (5, .int (0 : Int32)), (4, .int r1), (0, .ref (b + 0)), (1, .int a1), (2, .int a2), (3, .int a3)]) hx hb dX11_keeps_52 hl (by decide) rfl (fun ls hl => ?_)
      exact l_X11_keeps_54 C0 hr hml hlk 5000 _ _ _ _ _ _ _ _ h hW hS (lv_sub hl [3, 4, 2, 1, 0] rfl)
    · replace h := z_t h hc
      clear hc
      refine lv_bipush (v := (99 : Int32)) hx hb dX11_keeps_18 (by decide) ?_
      refine lv_aload_n hx hb dX11_keeps_20 rfl (lv_at hl 0 rfl) ?_
      refine z_getr (o := 1) C0 hW fl_X11_7 rfl rfl rfl dX11_keeps_21 ?_
      refine lv_iconst (v := (5 : Int32)) hx hb dX11_keeps_24 (by decide) ?_
      refine z_iald (k := 5) (n := 705) C0 hW rfl rfl (by decide) (by decide) dX11_keeps_25 ?_
      refine lv_iconst (v := (1 : Int32)) hx hb dX11_keeps_26 (by decide) ?_
      refine lv_iadd hx hb dX11_keeps_27 ?_
      obtain ⟨r9, hq⟩ : ∃ y, f_X11_lesser (99 : Int32) ((u 1 5) + (1 : Int32)) u = y := ⟨_, rfl⟩
      replace h := z_lz h hq
      refine z_csi (As := [.int (99 : Int32), .int ((u 1 5) + (1 : Int32))]) C0 hml hl.1 hW hS (c_X11_lesser l D A b (99 : Int32) ((u 1 5) + (1 : Int32)) u hq) ms_X11_63 ⟨Nat.le_of_ble_eq_true rfl, Nat.le_of_ble_eq_true rfl⟩ rfl rfl (Nat.le_of_ble_eq_true rfl) dX11_keeps_28 (fun H locs hW hS => ?_)
      clear hq
      refine lv_goto (tgt := 46) hx hb dX11_keeps_31 (by decide) ?_
      refine lv_istore (lv' := [(4, .int r9), (0, .ref (b + 0)), (1, .int a1), (2, .int a2), (3, .int a3)]) hx hb dX11_keeps_46 hl (by decide) rfl (fun ls hl => ?_)
      refine lv_iconst (v := (0 : Int32)) hx hb dX11_keeps_48 (by decide) ?_
      refine lv_istore (lv' := [(5, .int (0 : Int32)), (4, .int r9), (0, .ref (b + 0)), (1, .int a1), (2, .int a2), (3, .int a3)]) hx hb dX11_keeps_49 hl (by decide) rfl (fun ls hl => ?_)
      refine lv_iconst (v := (0 : Int32)) hx hb dX11_keeps_51 (by decide) ?_
      refine lv_istore (lv' := [(6, .int (0 : Int32)), (5, .int (0 : Int32)), (4, .int r9), (0, .ref (b + 0)), (1, .int a1), (2, .int a2), (3, .int a3)]) hx hb dX11_keeps_52 hl (by decide) rfl (fun ls hl => ?_)
      exact l_X11_keeps_54 C0 hr hml hlk 5000 _ _ _ _ _ _ _ _ h hW hS (lv_sub hl [3, 4, 2, 1, 0] rfl)
  · replace h := z_f h hc
    clear hc
    refine lv_aload_n hx hb dX11_keeps_5 rfl (lv_at hl 0 rfl) ?_
    refine z_getr (o := 1) C0 hW fl_X11_7 rfl rfl rfl dX11_keeps_6 ?_
    refine lv_iconst (v := (5 : Int32)) hx hb dX11_keeps_9 (by decide) ?_
    refine z_iald (k := 5) (n := 705) C0 hW rfl rfl (by decide) (by decide) dX11_keeps_10 ?_
    refine lv_goto (tgt := 46) hx hb dX11_keeps_11 (by decide) ?_
    refine lv_topi (fun z10 e1 => ?_)
    replace h := z_ly h e1
    clear e1
    refine lv_istore (lv' := [(4, .int z10), (0, .ref (b + 0)), (1, .int a1), (2, .int a2), (3, .int a3)]) hx hb dX11_keeps_46 hl (by decide) rfl (fun ls hl => ?_)
    refine lv_iconst (v := (0 : Int32)) hx hb dX11_keeps_48 (by decide) ?_
    refine lv_istore (lv' := [(5, .int (0 : Int32)), (4, .int z10), (0, .ref (b + 0)), (1, .int a1), (2, .int a2), (3, .int a3)]) hx hb dX11_keeps_49 hl (by decide) rfl (fun ls hl => ?_)
    refine lv_iconst (v := (0 : Int32)) hx hb dX11_keeps_51 (by decide) ?_
    refine lv_istore (lv' := [(6, .int (0 : Int32)), (5, .int (0 : Int32)), (4, .int z10), (0, .ref (b + 0)), (1, .int a1), (2, .int a2), (3, .int a3)]) hx hb dX11_keeps_52 hl (by decide) rfl (fun ls hl => ?_)
    exact l_X11_keeps_54 C0 hr hml hlk 5000 _ _ _ _ _ _ _ _ h hW hS (lv_sub hl [3, 4, 2, 1, 0] rfl)
def f_X11_rests_46 : Nat → Int32 → Int32 → Int32 → Int32 → zU → Option (Int32 × zU)
  | 0, _, _, _, _, _ => none
  | n + 1, x1, x2, x3, x4, u =>
    if (4 : Int32) ≤ x4 then (some (x3, u)) else (z_let (x4 / (2 : Int32)) (fun z3 => z_let (z_rem x4 (2 : Int32)) (fun z4 => z_b2 (f_X11_keeps x1 ((1 : Int32) - z3) z4 u) (fun r5 u6 => z_b2 (f_X11_keeps x1 z3 z4 u6) (fun r7 u8 => if r7 < r5 then (f_X11_rests_46 n x1 x2 x3 (x4 + (1 : Int32)) u8) else (z_b2 (f_X11_keeps x2 z3 ((1 : Int32) - z4) u8) (fun r9 u10 => z_b2 (f_X11_keeps x2 z3 z4 u10) (fun r11 u12 => if r11 < r9 then (f_X11_rests_46 n x1 x2 x3 (x4 + (1 : Int32)) u12) else (z_let (x3 ||| ((1 : Int32) <<< (x4 &&& 31))) (fun z13 => f_X11_rests_46 n x1 x2 z13 (x4 + (1 : Int32)) u12))))))))))
theorem f_X11_rests_46_s (n : Nat) (x1 : Int32) (x2 : Int32) (x3 : Int32) (x4 : Int32) (u : zU) : f_X11_rests_46 (n + 1) x1 x2 x3 x4 u = if (4 : Int32) ≤ x4 then (some (x3, u)) else (z_let (x4 / (2 : Int32)) (fun z3 => z_let (z_rem x4 (2 : Int32)) (fun z4 => z_b2 (f_X11_keeps x1 ((1 : Int32) - z3) z4 u) (fun r5 u6 => z_b2 (f_X11_keeps x1 z3 z4 u6) (fun r7 u8 => if r7 < r5 then (f_X11_rests_46 n x1 x2 x3 (x4 + (1 : Int32)) u8) else (z_b2 (f_X11_keeps x2 z3 ((1 : Int32) - z4) u8) (fun r9 u10 => z_b2 (f_X11_keeps x2 z3 z4 u10) (fun r11 u12 => if r11 < r9 then (f_X11_rests_46 n x1 x2 x3 (x4 + (1 : Int32)) u12) else (z_let (x3 ||| ((1 : Int32) <<< (x4 &&& 31))) (fun z13 => f_X11_rests_46 n x1 x2 z13 (x4 + (1 : Int32)) u12)))))))))) := rfl
def f_X11_rests (a1 : Int32) (a2 : Int32) (u : zU) : Option (Int32 × zU) :=
  z_let (f_X11_isParty a1 u) (fun t1 => if t1 = true then (z_let (f_X11_isParty a2 u) (fun t14 => if t14 = true then (if a1 = a2 then (z_let (z_up u 0 0 (2 : Int32)) (fun u16 => if (u16 0 0) ≤ 0 then (f_X11_rests_46 5000 a1 a2 (0 : Int32) (0 : Int32) u16) else (some ((0 : Int32), u16)))) else (z_let (z_up u 0 0 (0 : Int32)) (fun u15 => if (u15 0 0) ≤ 0 then (f_X11_rests_46 5000 a1 a2 (0 : Int32) (0 : Int32) u15) else (some ((0 : Int32), u15))))) else (z_let (z_up u 0 0 (1 : Int32)) (fun u17 => if (u17 0 0) ≤ 0 then (f_X11_rests_46 5000 a1 a2 (0 : Int32) (0 : Int32) u17) else (some ((0 : Int32), u17)))))) else (z_let (z_up u 0 0 (1 : Int32)) (fun u2 => if (u2 0 0) ≤ 0 then (f_X11_rests_46 5000 a1 a2 (0 : Int32) (0 : Int32) u2) else (some ((0 : Int32), u2)))))
set_option maxRecDepth 100000 in
set_option maxHeartbeats 4000000 in
theorem l_X11_rests_46 {l : Launch} {D : zD} {A : Nat → Prop} {b : Nat} {p : Program} {e : Env} {s : State} {m : MethodId} {args : Array Value} {below : List Frame} {meth : Method} {c : Code} {v : Int32} {u' : zU} (C0 : z_C p c cX11_rests s m args yX11_rests.cls D A) (hr : meth.sig.returnType = (some .int)) (hml : c.maxLocals = 7) (hlk : meth.locks = false) : ∀ (n : Nat) (x1 : Int32) (x2 : Int32) (x3 : Int32) (x4 : Int32) (u : zU) (H : Heap) (locs : List Loc) (ls : Array Slot), f_X11_rests_46 n x1 x2 x3 x4 u = some (v, u') → z_W D A b gM u H → va_S A s.heap H locs → lv_has ls 7 [(0, .ref (b + 0)), (1, .int x1), (2, .int x2), (3, .int x3), (4, .int x4)] → W p l e { frames := 44, cells := 0, slots := 0, locals := 1399 } s m args below meth c H locs 0 0 (z_End D A b gM below args s (some (.int v)) u') (F0 m 46 ls []) := by
  have hx := C0.1
  have hb := C0.2.1
  intro n
  induction n with
  | zero => intro x1 x2 x3 x4 u H locs ls h hW hS hl; cases h
  | succ n ih =>
    intro x1 x2 x3 x4 u H locs ls h hW hS hl
    rw [f_X11_rests_46_s] at h
    refine lv_iload hx hb dX11_rests_46 (lv_at hl 4 rfl) ?_
    refine lv_iconst (v := (4 : Int32)) hx hb dX11_rests_48 (by decide) ?_
    refine lv_icmp_ge (tgt := 123) hx hb dX11_rests_49 (by decide) (fun hc => ?_) (fun hc => ?_)
    · replace h := z_t h hc
      clear hc
      refine lv_iload_n hx hb dX11_rests_123 rfl (lv_at hl 3 rfl) ?_
      cases h
      exact z_iret C0 hr hlk hW hS dX11_rests_124
    · replace h := z_f h hc
      clear hc
      refine lv_iload hx hb dX11_rests_52 (lv_at hl 4 rfl) ?_
      refine lv_iconst (v := (2 : Int32)) hx hb dX11_rests_54 (by decide) ?_
      refine lv_idiv hx hb dX11_rests_55 (by decide) ?_
      refine lv_topi (fun z3 e1 => ?_)
      replace h := z_ly h e1
      clear e1
      refine lv_istore (lv' := [(5, .int z3), (0, .ref (b + 0)), (1, .int x1), (2, .int x2), (3, .int x3), (4, .int x4)]) hx hb dX11_rests_56 hl (by decide) rfl (fun ls hl => ?_)
      refine lv_iload hx hb dX11_rests_58 (lv_at hl 5 rfl) ?_
      refine lv_iconst (v := (2 : Int32)) hx hb dX11_rests_60 (by decide) ?_
      refine lv_irem hx hb dX11_rests_61 (by decide) ?_
      refine lv_topi (fun z4 e1 => ?_)
      replace h := z_ly h e1
      clear e1
      refine lv_istore (lv' := [(6, .int z4), (5, .int z3), (0, .ref (b + 0)), (1, .int x1), (2, .int x2), (3, .int x3), (4, .int x4)]) hx hb dX11_rests_62 hl (by decide) rfl (fun ls hl => ?_)
      refine lv_aload_n hx hb dX11_rests_64 rfl (lv_at hl 2 rfl) ?_
      refine lv_iload_n hx hb dX11_rests_65 rfl (lv_at hl 3 rfl) ?_
      refine lv_iconst (v := (1 : Int32)) hx hb dX11_rests_66 (by decide) ?_
      refine lv_iload hx hb dX11_rests_67 (lv_at hl 1 rfl) ?_
      refine lv_isub hx hb dX11_rests_69 ?_
      refine lv_iload hx hb dX11_rests_70 (lv_at hl 0 rfl) ?_
      replace h := z_bd2 h
      obtain ⟨r5, u6, hq, h⟩ := h
      refine z_cvi (As := [.int x1, .int ((1 : Int32) - z3), .int z4]) C0 hml hl.1 hW hS (c_X11_keeps l D A b x1 ((1 : Int32) - z3) z4 u hq) mv_X11_331 rfl ⟨Nat.le_of_ble_eq_true rfl, Nat.le_of_ble_eq_true rfl⟩ rfl rfl (Nat.le_of_ble_eq_true rfl) dX11_rests_72 (fun H locs hW hS => ?_)
      clear hq
      refine lv_aload_n hx hb dX11_rests_75 rfl (lv_at hl 2 rfl) ?_
      refine lv_iload_n hx hb dX11_rests_76 rfl (lv_at hl 3 rfl) ?_
      refine lv_iload hx hb dX11_rests_77 (lv_at hl 1 rfl) ?_
      refine lv_iload hx hb dX11_rests_79 (lv_at hl 0 rfl) ?_
      replace h := z_bd2 h
      obtain ⟨r7, u8, hq, h⟩ := h
      refine z_cvi (As := [.int x1, .int z3, .int z4]) C0 hml hl.1 hW hS (c_X11_keeps l D A b x1 z3 z4 u6 hq) mv_X11_331 rfl ⟨Nat.le_of_ble_eq_true rfl, Nat.le_of_ble_eq_true rfl⟩ rfl rfl (Nat.le_of_ble_eq_true rfl) dX11_rests_81 (fun H locs hW hS => ?_)
      clear hq
      refine lv_icmp_gt (tgt := 117) hx hb dX11_rests_84 (by decide) (fun hc => ?_) (fun hc => ?_)
      · replace h := z_t h hc
        clear hc
        refine lv_iinc (v := x4 + (1 : Int32)) (lv' := [(4, .int (x4 + (1 : Int32))), (6, .int z4), (5, .int z3), (0, .ref (b + 0)), (1, .int x1), (2, .int x2), (3, .int x3)]) hx hb dX11_rests_117 hl (k := 6) rfl rfl (by decide) rfl (fun ls hl => ?_)
        refine lv_goto (tgt := 46) hx hb dX11_rests_120 (by decide) ?_
        exact ih _ _ _ _ _ _ _ _ h hW hS (lv_sub hl [3, 4, 5, 6, 0] rfl)
      · replace h := z_f h hc
        clear hc
        refine lv_aload_n hx hb dX11_rests_87 rfl (lv_at hl 2 rfl) ?_
        refine lv_iload_n hx hb dX11_rests_88 rfl (lv_at hl 4 rfl) ?_
        refine lv_iload hx hb dX11_rests_89 (lv_at hl 1 rfl) ?_
        refine lv_iconst (v := (1 : Int32)) hx hb dX11_rests_91 (by decide) ?_
        refine lv_iload hx hb dX11_rests_92 (lv_at hl 0 rfl) ?_
        refine lv_isub hx hb dX11_rests_94 ?_
        replace h := z_bd2 h
        obtain ⟨r9, u10, hq, h⟩ := h
        refine z_cvi (As := [.int x2, .int z3, .int ((1 : Int32) - z4)]) C0 hml hl.1 hW hS (c_X11_keeps l D A b x2 z3 ((1 : Int32) - z4) u8 hq) mv_X11_331 rfl ⟨Nat.le_of_ble_eq_true rfl, Nat.le_of_ble_eq_true rfl⟩ rfl rfl (Nat.le_of_ble_eq_true rfl) dX11_rests_95 (fun H locs hW hS => ?_)
        clear hq
        refine lv_aload_n hx hb dX11_rests_98 rfl (lv_at hl 2 rfl) ?_
        refine lv_iload_n hx hb dX11_rests_99 rfl (lv_at hl 4 rfl) ?_
        refine lv_iload hx hb dX11_rests_100 (lv_at hl 1 rfl) ?_
        refine lv_iload hx hb dX11_rests_102 (lv_at hl 0 rfl) ?_
        replace h := z_bd2 h
        obtain ⟨r11, u12, hq, h⟩ := h
        refine z_cvi (As := [.int x2, .int z3, .int z4]) C0 hml hl.1 hW hS (c_X11_keeps l D A b x2 z3 z4 u10 hq) mv_X11_331 rfl ⟨Nat.le_of_ble_eq_true rfl, Nat.le_of_ble_eq_true rfl⟩ rfl rfl (Nat.le_of_ble_eq_true rfl) dX11_rests_104 (fun H locs hW hS => ?_)
        clear hq
        refine lv_icmp_gt (tgt := 117) hx hb dX11_rests_107 (by decide) (fun hc => ?_) (fun hc => ?_)
        · replace h := z_t h hc
          clear hc
          refine lv_iinc (v := x4 + (1 : Int32)) (lv' := [(4, .int (x4 + (1 : Int32))), (6, .int z4), (5, .int z3), (0, .ref (b + 0)), (1, .int x1), (2, .int x2), (3, .int x3)]) hx hb dX11_rests_117 hl (k := 6) rfl rfl (by decide) rfl (fun ls hl => ?_)
          refine lv_goto (tgt := 46) hx hb dX11_rests_120 (by decide) ?_
          exact ih _ _ _ _ _ _ _ _ h hW hS (lv_sub hl [3, 4, 5, 6, 0] rfl)
        · replace h := z_f h hc
          clear hc
          refine lv_iload_n hx hb dX11_rests_110 rfl (lv_at hl 5 rfl) ?_
          refine lv_iconst (v := (1 : Int32)) hx hb dX11_rests_111 (by decide) ?_
          refine lv_iload hx hb dX11_rests_112 (lv_at hl 6 rfl) ?_
          refine lv_ishl hx hb dX11_rests_114 ?_
          refine lv_ior hx hb dX11_rests_115 ?_
          refine lv_topi (fun z13 e1 => ?_)
          replace h := z_ly h e1
          clear e1
          refine lv_istore_n (lv' := [(3, .int z13), (6, .int z4), (5, .int z3), (0, .ref (b + 0)), (1, .int x1), (2, .int x2), (4, .int x4)]) hx hb dX11_rests_116 rfl hl (by decide) rfl (fun ls hl => ?_)
          refine lv_iinc (v := x4 + (1 : Int32)) (lv' := [(4, .int (x4 + (1 : Int32))), (3, .int z13), (6, .int z4), (5, .int z3), (0, .ref (b + 0)), (1, .int x1), (2, .int x2)]) hx hb dX11_rests_117 hl (k := 6) rfl rfl (by decide) rfl (fun ls hl => ?_)
          refine lv_goto (tgt := 46) hx hb dX11_rests_120 (by decide) ?_
          exact ih _ _ _ _ _ _ _ _ h hW hS (lv_sub hl [4, 5, 6, 1, 0] rfl)
theorem f_X11_rests_e (a1 : Int32) (a2 : Int32) (u : zU) : f_X11_rests a1 a2 u = z_let (f_X11_isParty a1 u) (fun t1 => if t1 = true then (z_let (f_X11_isParty a2 u) (fun t14 => if t14 = true then (if a1 = a2 then (z_let (z_up u 0 0 (2 : Int32)) (fun u16 => if (u16 0 0) ≤ 0 then (f_X11_rests_46 5000 a1 a2 (0 : Int32) (0 : Int32) u16) else (some ((0 : Int32), u16)))) else (z_let (z_up u 0 0 (0 : Int32)) (fun u15 => if (u15 0 0) ≤ 0 then (f_X11_rests_46 5000 a1 a2 (0 : Int32) (0 : Int32) u15) else (some ((0 : Int32), u15))))) else (z_let (z_up u 0 0 (1 : Int32)) (fun u17 => if (u17 0 0) ≤ 0 then (f_X11_rests_46 5000 a1 a2 (0 : Int32) (0 : Int32) u17) else (some ((0 : Int32), u17)))))) else (z_let (z_up u 0 0 (1 : Int32)) (fun u2 => if (u2 0 0) ≤ 0 then (f_X11_rests_46 5000 a1 a2 (0 : Int32) (0 : Int32) u2) else (some ((0 : Int32), u2))))) := rfl
set_option maxRecDepth 100000 in
set_option maxHeartbeats 4000000 in
theorem c_X11_rests (l : Launch) (D : zD) (A : Nat → Prop) (b : Nat) (a1 : Int32) (a2 : Int32) (u : zU) {v : Int32} {u' : zU} (h : f_X11_rests a1 a2 u = some (v, u')) : z_M l D A b gM yX11_rests cX11_rests 7 (some .int) 44 1399 [.ref (b + 0), .int a1, .int a2] u (some (.int v)) u' := by
  refine z_enter (by decide) (Nat.le_of_ble_eq_true rfl) ?_
  intro p e s m below meth c ls C0 hr hml hlk hW hS hl
  have hl : lv_has ls 7 [(0, .ref (b + 0)), (1, .int a1), (2, .int a2)] := hl
  have hx := C0.1
  have hb := C0.2.1
  rw [f_X11_rests_e] at h
  refine lv_aload_n hx hb dX11_rests_0 rfl (lv_at hl 0 rfl) ?_
  refine lv_iload_n hx hb dX11_rests_1 rfl (lv_at hl 1 rfl) ?_
  obtain ⟨t1, hq⟩ : ∃ y, f_X11_isParty a1 u = y := ⟨_, rfl⟩
  replace h := z_lz h hq
  refine z_csi (As := [.int a1]) C0 hml hl.1 hW hS (c_X11_isParty l D A b a1 u hq) ms_X11_312 ⟨Nat.le_of_ble_eq_true rfl, Nat.le_of_ble_eq_true rfl⟩ rfl rfl (Nat.le_of_ble_eq_true rfl) dX11_rests_2 (fun H locs hW hS => ?_)
  clear hq
  refine z_ifeqZ C0 (tgt := 15) dX11_rests_5 (by decide) (fun hc => ?_) (fun hc => ?_)
  · replace h := z_ff h hc
    clear hc
    refine lv_iconst (v := (1 : Int32)) hx hb dX11_rests_15 (by decide) ?_
    refine lv_goto (tgt := 29) hx hb dX11_rests_16 (by decide) ?_
    refine z_puti C0 hW hS fl_X11_42 rfl rfl rfl rfl dX11_rests_29 (fun H locs u2 e1 hW hS => ?_)
    replace h := z_ly h e1
    clear e1
    refine lv_aload_n hx hb dX11_rests_32 rfl (lv_at hl 0 rfl) ?_
    refine z_geti C0 hW fl_X11_42 rfl rfl dX11_rests_33 ?_
    refine lv_if_le (tgt := 41) hx hb dX11_rests_36 (by decide) (fun hc => ?_) (fun hc => ?_)
    · replace h := z_t h hc
      clear hc
      refine lv_iconst (v := (0 : Int32)) hx hb dX11_rests_41 (by decide) ?_
      refine lv_istore_n (lv' := [(3, .int (0 : Int32)), (0, .ref (b + 0)), (1, .int a1), (2, .int a2)]) hx hb dX11_rests_42 rfl hl (by decide) rfl (fun ls hl => ?_)
      refine lv_iconst (v := (0 : Int32)) hx hb dX11_rests_43 (by decide) ?_
      refine lv_istore (lv' := [(4, .int (0 : Int32)), (3, .int (0 : Int32)), (0, .ref (b + 0)), (1, .int a1), (2, .int a2)]) hx hb dX11_rests_44 hl (by decide) rfl (fun ls hl => ?_)
      exact l_X11_rests_46 C0 hr hml hlk 5000 _ _ _ _ _ _ _ _ h hW hS (lv_sub hl [2, 3, 4, 1, 0] rfl)
    · replace h := z_f h hc
      clear hc
      refine lv_iconst (v := (0 : Int32)) hx hb dX11_rests_39 (by decide) ?_
      cases h
      exact z_iret C0 hr hlk hW hS dX11_rests_40
  · replace h := z_t h hc
    clear hc
    refine lv_iload_n hx hb dX11_rests_8 rfl (lv_at hl 2 rfl) ?_
    obtain ⟨t14, hq⟩ : ∃ y, f_X11_isParty a2 u = y := ⟨_, rfl⟩
    replace h := z_lz h hq
    refine z_csi (As := [.int a2]) C0 hml hl.1 hW hS (c_X11_isParty l D A b a2 u hq) ms_X11_312 ⟨Nat.le_of_ble_eq_true rfl, Nat.le_of_ble_eq_true rfl⟩ rfl rfl (Nat.le_of_ble_eq_true rfl) dX11_rests_9 (fun H locs hW hS => ?_)
    clear hq
    refine z_ifneZ C0 (tgt := 19) dX11_rests_12 (by decide) (fun hc => ?_) (fun hc => ?_)
    · replace h := z_t h hc
      clear hc
      refine lv_iload_n hx hb dX11_rests_19 rfl (lv_at hl 1 rfl) ?_
      refine lv_iload_n hx hb dX11_rests_20 rfl (lv_at hl 2 rfl) ?_
      refine lv_icmp_ne (tgt := 28) hx hb dX11_rests_21 (by decide) (fun hc => ?_) (fun hc => ?_)
      · replace h := z_f h hc
        clear hc
        refine lv_iconst (v := (0 : Int32)) hx hb dX11_rests_28 (by decide) ?_
        refine z_puti C0 hW hS fl_X11_42 rfl rfl rfl rfl dX11_rests_29 (fun H locs u15 e1 hW hS => ?_)
        replace h := z_ly h e1
        clear e1
        refine lv_aload_n hx hb dX11_rests_32 rfl (lv_at hl 0 rfl) ?_
        refine z_geti C0 hW fl_X11_42 rfl rfl dX11_rests_33 ?_
        refine lv_if_le (tgt := 41) hx hb dX11_rests_36 (by decide) (fun hc => ?_) (fun hc => ?_)
        · replace h := z_t h hc
          clear hc
          refine lv_iconst (v := (0 : Int32)) hx hb dX11_rests_41 (by decide) ?_
          refine lv_istore_n (lv' := [(3, .int (0 : Int32)), (0, .ref (b + 0)), (1, .int a1), (2, .int a2)]) hx hb dX11_rests_42 rfl hl (by decide) rfl (fun ls hl => ?_)
          refine lv_iconst (v := (0 : Int32)) hx hb dX11_rests_43 (by decide) ?_
          refine lv_istore (lv' := [(4, .int (0 : Int32)), (3, .int (0 : Int32)), (0, .ref (b + 0)), (1, .int a1), (2, .int a2)]) hx hb dX11_rests_44 hl (by decide) rfl (fun ls hl => ?_)
          exact l_X11_rests_46 C0 hr hml hlk 5000 _ _ _ _ _ _ _ _ h hW hS (lv_sub hl [2, 3, 4, 1, 0] rfl)
        · replace h := z_f h hc
          clear hc
          refine lv_iconst (v := (0 : Int32)) hx hb dX11_rests_39 (by decide) ?_
          cases h
          exact z_iret C0 hr hlk hW hS dX11_rests_40
      · replace h := z_t h hc
        clear hc
        refine lv_iconst (v := (2 : Int32)) hx hb dX11_rests_24 (by decide) ?_
        refine lv_goto (tgt := 29) hx hb dX11_rests_25 (by decide) ?_
        refine z_puti C0 hW hS fl_X11_42 rfl rfl rfl rfl dX11_rests_29 (fun H locs u16 e1 hW hS => ?_)
        replace h := z_ly h e1
        clear e1
        refine lv_aload_n hx hb dX11_rests_32 rfl (lv_at hl 0 rfl) ?_
        refine z_geti C0 hW fl_X11_42 rfl rfl dX11_rests_33 ?_
        refine lv_if_le (tgt := 41) hx hb dX11_rests_36 (by decide) (fun hc => ?_) (fun hc => ?_)
        · replace h := z_t h hc
          clear hc
          refine lv_iconst (v := (0 : Int32)) hx hb dX11_rests_41 (by decide) ?_
          refine lv_istore_n (lv' := [(3, .int (0 : Int32)), (0, .ref (b + 0)), (1, .int a1), (2, .int a2)]) hx hb dX11_rests_42 rfl hl (by decide) rfl (fun ls hl => ?_)
          refine lv_iconst (v := (0 : Int32)) hx hb dX11_rests_43 (by decide) ?_
          refine lv_istore (lv' := [(4, .int (0 : Int32)), (3, .int (0 : Int32)), (0, .ref (b + 0)), (1, .int a1), (2, .int a2)]) hx hb dX11_rests_44 hl (by decide) rfl (fun ls hl => ?_)
          exact l_X11_rests_46 C0 hr hml hlk 5000 _ _ _ _ _ _ _ _ h hW hS (lv_sub hl [2, 3, 4, 1, 0] rfl)
        · replace h := z_f h hc
          clear hc
          refine lv_iconst (v := (0 : Int32)) hx hb dX11_rests_39 (by decide) ?_
          cases h
          exact z_iret C0 hr hlk hW hS dX11_rests_40
    · replace h := z_ff h hc
      clear hc
      refine lv_iconst (v := (1 : Int32)) hx hb dX11_rests_15 (by decide) ?_
      refine lv_goto (tgt := 29) hx hb dX11_rests_16 (by decide) ?_
      refine z_puti C0 hW hS fl_X11_42 rfl rfl rfl rfl dX11_rests_29 (fun H locs u17 e1 hW hS => ?_)
      replace h := z_ly h e1
      clear e1
      refine lv_aload_n hx hb dX11_rests_32 rfl (lv_at hl 0 rfl) ?_
      refine z_geti C0 hW fl_X11_42 rfl rfl dX11_rests_33 ?_
      refine lv_if_le (tgt := 41) hx hb dX11_rests_36 (by decide) (fun hc => ?_) (fun hc => ?_)
      · replace h := z_t h hc
        clear hc
        refine lv_iconst (v := (0 : Int32)) hx hb dX11_rests_41 (by decide) ?_
        refine lv_istore_n (lv' := [(3, .int (0 : Int32)), (0, .ref (b + 0)), (1, .int a1), (2, .int a2)]) hx hb dX11_rests_42 rfl hl (by decide) rfl (fun ls hl => ?_)
        refine lv_iconst (v := (0 : Int32)) hx hb dX11_rests_43 (by decide) ?_
        refine lv_istore (lv' := [(4, .int (0 : Int32)), (3, .int (0 : Int32)), (0, .ref (b + 0)), (1, .int a1), (2, .int a2)]) hx hb dX11_rests_44 hl (by decide) rfl (fun ls hl => ?_)
        exact l_X11_rests_46 C0 hr hml hlk 5000 _ _ _ _ _ _ _ _ h hW hS (lv_sub hl [2, 3, 4, 1, 0] rfl)
      · replace h := z_f h hc
        clear hc
        refine lv_iconst (v := (0 : Int32)) hx hb dX11_rests_39 (by decide) ?_
        cases h
        exact z_iret C0 hr hlk hW hS dX11_rests_40
def f_X11_firstBy_10 : Nat → Int32 → Int32 → Bool → Int32 → Int32 → zU → Option (Int32 × zU)
  | 0, _, _, _, _, _, _ => none
  | n + 1, x1, x2, x3, x4, x5, u =>
    if (100 : Int32) < x5 then ((f_X11_comesBack u).bind (fun u2 => some (x4, u2))) else (if x4 = (-1 : Int32) then (if x3 = true then ((f_X11_governorNow u).bind (fun r9 => if r9 = x1 then (z_b2 (f_X11_goes (1 : Int32) x2 u) (fun r12 u13 => f_X11_firstBy_10 n x1 x2 x3 x5 (x5 + (1 : Int32)) u13)) else (z_b2 (f_X11_goes (1 : Int32) x2 u) (fun r10 u11 => f_X11_firstBy_10 n x1 x2 x3 x4 (x5 + (1 : Int32)) u11)))) else ((f_X11_waits x1 u).bind (fun t4 => if t4 = true then (z_b2 (f_X11_goes (1 : Int32) x2 u) (fun r5 u6 => f_X11_firstBy_10 n x1 x2 x3 x4 (x5 + (1 : Int32)) u6)) else (z_b2 (f_X11_goes (1 : Int32) x2 u) (fun r7 u8 => f_X11_firstBy_10 n x1 x2 x3 x5 (x5 + (1 : Int32)) u8))))) else ((f_X11_comesBack u).bind (fun u3 => some (x4, u3))))
theorem f_X11_firstBy_10_s (n : Nat) (x1 : Int32) (x2 : Int32) (x3 : Bool) (x4 : Int32) (x5 : Int32) (u : zU) : f_X11_firstBy_10 (n + 1) x1 x2 x3 x4 x5 u = if (100 : Int32) < x5 then ((f_X11_comesBack u).bind (fun u2 => some (x4, u2))) else (if x4 = (-1 : Int32) then (if x3 = true then ((f_X11_governorNow u).bind (fun r9 => if r9 = x1 then (z_b2 (f_X11_goes (1 : Int32) x2 u) (fun r12 u13 => f_X11_firstBy_10 n x1 x2 x3 x5 (x5 + (1 : Int32)) u13)) else (z_b2 (f_X11_goes (1 : Int32) x2 u) (fun r10 u11 => f_X11_firstBy_10 n x1 x2 x3 x4 (x5 + (1 : Int32)) u11)))) else ((f_X11_waits x1 u).bind (fun t4 => if t4 = true then (z_b2 (f_X11_goes (1 : Int32) x2 u) (fun r5 u6 => f_X11_firstBy_10 n x1 x2 x3 x4 (x5 + (1 : Int32)) u6)) else (z_b2 (f_X11_goes (1 : Int32) x2 u) (fun r7 u8 => f_X11_firstBy_10 n x1 x2 x3 x5 (x5 + (1 : Int32)) u8))))) else ((f_X11_comesBack u).bind (fun u3 => some (x4, u3)))) := rfl
def f_X11_firstBy (a1 : Int32) (a2 : Int32) (a3 : Bool) (u : zU) : Option (Int32 × zU) :=
  (f_X11_putsAside u).bind (fun u1 => f_X11_firstBy_10 5000 a1 a2 a3 (-1 : Int32) (0 : Int32) u1)
set_option maxRecDepth 100000 in
set_option maxHeartbeats 4000000 in
theorem l_X11_firstBy_10 {l : Launch} {D : zD} {A : Nat → Prop} {b : Nat} {p : Program} {e : Env} {s : State} {m : MethodId} {args : Array Value} {below : List Frame} {meth : Method} {c : Code} {v : Int32} {u' : zU} (C0 : z_C p c cX11_firstBy s m args yX11_firstBy.cls D A) (hr : meth.sig.returnType = (some .int)) (hml : c.maxLocals = 7) (hlk : meth.locks = false) : ∀ (n : Nat) (x1 : Int32) (x2 : Int32) (x3 : Bool) (x4 : Int32) (x5 : Int32) (u : zU) (H : Heap) (locs : List Loc) (ls : Array Slot), f_X11_firstBy_10 n x1 x2 x3 x4 x5 u = some (v, u') → z_W D A b gM u H → va_S A s.heap H locs → lv_has ls 7 [(0, .ref (b + 0)), (1, .int x1), (2, .int x2), (3, .int (bI x3)), (4, .int x4), (5, .int x5)] → W p l e { frames := 45, cells := 0, slots := 0, locals := 1427 } s m args below meth c H locs 0 0 (z_End D A b gM below args s (some (.int v)) u') (F0 m 10 ls []) := by
  have hx := C0.1
  have hb := C0.2.1
  intro n
  induction n with
  | zero => intro x1 x2 x3 x4 x5 u H locs ls h hW hS hl; cases h
  | succ n ih =>
    intro x1 x2 x3 x4 x5 u H locs ls h hW hS hl
    rw [f_X11_firstBy_10_s] at h
    refine lv_iload hx hb dX11_firstBy_10 (lv_at hl 5 rfl) ?_
    refine lv_bipush (v := (100 : Int32)) hx hb dX11_firstBy_12 (by decide) ?_
    refine lv_icmp_gt (tgt := 64) hx hb dX11_firstBy_14 (by decide) (fun hc => ?_) (fun hc => ?_)
    · replace h := z_t h hc
      clear hc
      refine lv_aload_n hx hb dX11_firstBy_64 rfl (lv_at hl 0 rfl) ?_
      replace h := z_bd h
      obtain ⟨u2, hq, h⟩ := h
      refine z_cvv (As := []) C0 hml hl.1 hW hS (c_X11_comesBack l D A b u hq) mv_X11_179 rfl ⟨Nat.le_of_ble_eq_true rfl, Nat.le_of_ble_eq_true rfl⟩ rfl rfl (Nat.le_of_ble_eq_true rfl) dX11_firstBy_65 (fun H locs hW hS => ?_)
      clear hq
      refine lv_iload hx hb dX11_firstBy_68 (lv_at hl 4 rfl) ?_
      cases h
      exact z_iret C0 hr hlk hW hS dX11_firstBy_70
    · replace h := z_f h hc
      clear hc
      refine lv_iload hx hb dX11_firstBy_17 (lv_at hl 4 rfl) ?_
      refine lv_iconst (v := (-1 : Int32)) hx hb dX11_firstBy_19 (by decide) ?_
      refine lv_icmp_ne (tgt := 64) hx hb dX11_firstBy_20 (by decide) (fun hc => ?_) (fun hc => ?_)
      · replace h := z_f h hc
        clear hc
        refine lv_aload_n hx hb dX11_firstBy_64 rfl (lv_at hl 0 rfl) ?_
        replace h := z_bd h
        obtain ⟨u3, hq, h⟩ := h
        refine z_cvv (As := []) C0 hml hl.1 hW hS (c_X11_comesBack l D A b u hq) mv_X11_179 rfl ⟨Nat.le_of_ble_eq_true rfl, Nat.le_of_ble_eq_true rfl⟩ rfl rfl (Nat.le_of_ble_eq_true rfl) dX11_firstBy_65 (fun H locs hW hS => ?_)
        clear hq
        refine lv_iload hx hb dX11_firstBy_68 (lv_at hl 4 rfl) ?_
        cases h
        exact z_iret C0 hr hlk hW hS dX11_firstBy_70
      · replace h := z_t h hc
        clear hc
        refine lv_iload_n hx hb dX11_firstBy_23 rfl (lv_at hl 3 rfl) ?_
        refine z_ifeqZ C0 (tgt := 38) dX11_firstBy_24 (by decide) (fun hc => ?_) (fun hc => ?_)
        · replace h := z_ff h hc
          clear hc
          refine lv_aload_n hx hb dX11_firstBy_38 rfl (lv_at hl 0 rfl) ?_
          refine lv_iload_n hx hb dX11_firstBy_39 rfl (lv_at hl 1 rfl) ?_
          replace h := z_bd h
          obtain ⟨t4, hq, h⟩ := h
          refine z_cvi (As := [.int x1]) C0 hml hl.1 hW hS (c_X11_waits l D A b x1 u hq) mv_X11_255 rfl ⟨Nat.le_of_ble_eq_true rfl, Nat.le_of_ble_eq_true rfl⟩ rfl rfl (Nat.le_of_ble_eq_true rfl) dX11_firstBy_40 (fun H locs hW hS => ?_)
          clear hq
          refine z_ifneZ C0 (tgt := 50) dX11_firstBy_43 (by decide) (fun hc => ?_) (fun hc => ?_)
          · replace h := z_t h hc
            clear hc
            refine lv_aload_n hx hb dX11_firstBy_50 rfl (lv_at hl 0 rfl) ?_
            refine lv_iconst (v := (1 : Int32)) hx hb dX11_firstBy_51 (by decide) ?_
            refine lv_iload_n hx hb dX11_firstBy_52 rfl (lv_at hl 2 rfl) ?_
            replace h := z_bd2 h
            obtain ⟨r5, u6, hq, h⟩ := h
            refine z_cvi (As := [.int (1 : Int32), .int x2]) C0 hml hl.1 hW hS (c_X11_goes l D A b (1 : Int32) x2 u hq) mv_X11_321 rfl ⟨Nat.le_of_ble_eq_true rfl, Nat.le_of_ble_eq_true rfl⟩ rfl rfl (Nat.le_of_ble_eq_true rfl) dX11_firstBy_53 (fun H locs hW hS => ?_)
            clear hq
            refine lv_istore (lv' := [(6, .int r5), (0, .ref (b + 0)), (1, .int x1), (2, .int x2), (3, .int (bI x3)), (4, .int x4), (5, .int x5)]) hx hb dX11_firstBy_56 hl (by decide) rfl (fun ls hl => ?_)
            refine lv_iinc (v := x5 + (1 : Int32)) (lv' := [(5, .int (x5 + (1 : Int32))), (6, .int r5), (0, .ref (b + 0)), (1, .int x1), (2, .int x2), (3, .int (bI x3)), (4, .int x4)]) hx hb dX11_firstBy_58 hl (k := 6) rfl rfl (by decide) rfl (fun ls hl => ?_)
            refine lv_goto (tgt := 10) hx hb dX11_firstBy_61 (by decide) ?_
            exact ih _ _ _ _ _ _ _ _ _ h hW hS (lv_sub hl [2, 3, 4, 5, 6, 0] rfl)
          · replace h := z_ff h hc
            clear hc
            refine lv_iload hx hb dX11_firstBy_46 (lv_at hl 5 rfl) ?_
            refine lv_istore (lv' := [(4, .int x5), (0, .ref (b + 0)), (1, .int x1), (2, .int x2), (3, .int (bI x3)), (5, .int x5)]) hx hb dX11_firstBy_48 hl (by decide) rfl (fun ls hl => ?_)
            refine lv_aload_n hx hb dX11_firstBy_50 rfl (lv_at hl 1 rfl) ?_
            refine lv_iconst (v := (1 : Int32)) hx hb dX11_firstBy_51 (by decide) ?_
            refine lv_iload_n hx hb dX11_firstBy_52 rfl (lv_at hl 3 rfl) ?_
            replace h := z_bd2 h
            obtain ⟨r7, u8, hq, h⟩ := h
            refine z_cvi (As := [.int (1 : Int32), .int x2]) C0 hml hl.1 hW hS (c_X11_goes l D A b (1 : Int32) x2 u hq) mv_X11_321 rfl ⟨Nat.le_of_ble_eq_true rfl, Nat.le_of_ble_eq_true rfl⟩ rfl rfl (Nat.le_of_ble_eq_true rfl) dX11_firstBy_53 (fun H locs hW hS => ?_)
            clear hq
            refine lv_istore (lv' := [(6, .int r7), (4, .int x5), (0, .ref (b + 0)), (1, .int x1), (2, .int x2), (3, .int (bI x3)), (5, .int x5)]) hx hb dX11_firstBy_56 hl (by decide) rfl (fun ls hl => ?_)
            refine lv_iinc (v := x5 + (1 : Int32)) (lv' := [(5, .int (x5 + (1 : Int32))), (6, .int r7), (4, .int x5), (0, .ref (b + 0)), (1, .int x1), (2, .int x2), (3, .int (bI x3))]) hx hb dX11_firstBy_58 hl (k := 6) rfl rfl (by decide) rfl (fun ls hl => ?_)
            refine lv_goto (tgt := 10) hx hb dX11_firstBy_61 (by decide) ?_
            exact ih _ _ _ _ _ _ _ _ _ h hW hS (lv_sub hl [3, 4, 5, 6, 2, 0] rfl)
        · replace h := z_t h hc
          clear hc
          refine lv_aload_n hx hb dX11_firstBy_27 rfl (lv_at hl 0 rfl) ?_
          replace h := z_bd h
          obtain ⟨r9, hq, h⟩ := h
          refine z_cvi (As := []) C0 hml hl.1 hW hS (c_X11_governorNow l D A b u hq) mv_X11_249 rfl ⟨Nat.le_of_ble_eq_true rfl, Nat.le_of_ble_eq_true rfl⟩ rfl rfl (Nat.le_of_ble_eq_true rfl) dX11_firstBy_28 (fun H locs hW hS => ?_)
          clear hq
          refine lv_iload_n hx hb dX11_firstBy_31 rfl (lv_at hl 1 rfl) ?_
          refine lv_icmp_ne (tgt := 50) hx hb dX11_firstBy_32 (by decide) (fun hc => ?_) (fun hc => ?_)
          · replace h := z_f h hc
            clear hc
            refine lv_aload_n hx hb dX11_firstBy_50 rfl (lv_at hl 0 rfl) ?_
            refine lv_iconst (v := (1 : Int32)) hx hb dX11_firstBy_51 (by decide) ?_
            refine lv_iload_n hx hb dX11_firstBy_52 rfl (lv_at hl 2 rfl) ?_
            replace h := z_bd2 h
            obtain ⟨r10, u11, hq, h⟩ := h
            refine z_cvi (As := [.int (1 : Int32), .int x2]) C0 hml hl.1 hW hS (c_X11_goes l D A b (1 : Int32) x2 u hq) mv_X11_321 rfl ⟨Nat.le_of_ble_eq_true rfl, Nat.le_of_ble_eq_true rfl⟩ rfl rfl (Nat.le_of_ble_eq_true rfl) dX11_firstBy_53 (fun H locs hW hS => ?_)
            clear hq
            refine lv_istore (lv' := [(6, .int r10), (0, .ref (b + 0)), (1, .int x1), (2, .int x2), (3, .int (bI x3)), (4, .int x4), (5, .int x5)]) hx hb dX11_firstBy_56 hl (by decide) rfl (fun ls hl => ?_)
            refine lv_iinc (v := x5 + (1 : Int32)) (lv' := [(5, .int (x5 + (1 : Int32))), (6, .int r10), (0, .ref (b + 0)), (1, .int x1), (2, .int x2), (3, .int (bI x3)), (4, .int x4)]) hx hb dX11_firstBy_58 hl (k := 6) rfl rfl (by decide) rfl (fun ls hl => ?_)
            refine lv_goto (tgt := 10) hx hb dX11_firstBy_61 (by decide) ?_
            exact ih _ _ _ _ _ _ _ _ _ h hW hS (lv_sub hl [2, 3, 4, 5, 6, 0] rfl)
          · replace h := z_t h hc
            clear hc
            refine lv_goto (tgt := 46) hx hb dX11_firstBy_35 (by decide) ?_
            refine lv_iload hx hb dX11_firstBy_46 (lv_at hl 5 rfl) ?_
            refine lv_istore (lv' := [(4, .int x5), (0, .ref (b + 0)), (1, .int x1), (2, .int x2), (3, .int (bI x3)), (5, .int x5)]) hx hb dX11_firstBy_48 hl (by decide) rfl (fun ls hl => ?_)
            refine lv_aload_n hx hb dX11_firstBy_50 rfl (lv_at hl 1 rfl) ?_
            refine lv_iconst (v := (1 : Int32)) hx hb dX11_firstBy_51 (by decide) ?_
            refine lv_iload_n hx hb dX11_firstBy_52 rfl (lv_at hl 3 rfl) ?_
            replace h := z_bd2 h
            obtain ⟨r12, u13, hq, h⟩ := h
            refine z_cvi (As := [.int (1 : Int32), .int x2]) C0 hml hl.1 hW hS (c_X11_goes l D A b (1 : Int32) x2 u hq) mv_X11_321 rfl ⟨Nat.le_of_ble_eq_true rfl, Nat.le_of_ble_eq_true rfl⟩ rfl rfl (Nat.le_of_ble_eq_true rfl) dX11_firstBy_53 (fun H locs hW hS => ?_)
            clear hq
            refine lv_istore (lv' := [(6, .int r12), (4, .int x5), (0, .ref (b + 0)), (1, .int x1), (2, .int x2), (3, .int (bI x3)), (5, .int x5)]) hx hb dX11_firstBy_56 hl (by decide) rfl (fun ls hl => ?_)
            refine lv_iinc (v := x5 + (1 : Int32)) (lv' := [(5, .int (x5 + (1 : Int32))), (6, .int r12), (4, .int x5), (0, .ref (b + 0)), (1, .int x1), (2, .int x2), (3, .int (bI x3))]) hx hb dX11_firstBy_58 hl (k := 6) rfl rfl (by decide) rfl (fun ls hl => ?_)
            refine lv_goto (tgt := 10) hx hb dX11_firstBy_61 (by decide) ?_
            exact ih _ _ _ _ _ _ _ _ _ h hW hS (lv_sub hl [3, 4, 5, 6, 2, 0] rfl)
theorem f_X11_firstBy_e (a1 : Int32) (a2 : Int32) (a3 : Bool) (u : zU) : f_X11_firstBy a1 a2 a3 u = (f_X11_putsAside u).bind (fun u1 => f_X11_firstBy_10 5000 a1 a2 a3 (-1 : Int32) (0 : Int32) u1) := rfl
set_option maxRecDepth 100000 in
set_option maxHeartbeats 4000000 in
theorem c_X11_firstBy (l : Launch) (D : zD) (A : Nat → Prop) (b : Nat) (a1 : Int32) (a2 : Int32) (a3 : Bool) (u : zU) {v : Int32} {u' : zU} (h : f_X11_firstBy a1 a2 a3 u = some (v, u')) : z_M l D A b gM yX11_firstBy cX11_firstBy 7 (some .int) 45 1427 [.ref (b + 0), .int a1, .int a2, .int (bI a3)] u (some (.int v)) u' := by
  refine z_enter (by decide) (Nat.le_of_ble_eq_true rfl) ?_
  intro p e s m below meth c ls C0 hr hml hlk hW hS hl
  have hl : lv_has ls 7 [(0, .ref (b + 0)), (1, .int a1), (2, .int a2), (3, .int (bI a3))] := hl
  have hx := C0.1
  have hb := C0.2.1
  rw [f_X11_firstBy_e] at h
  refine lv_aload_n hx hb dX11_firstBy_0 rfl (lv_at hl 0 rfl) ?_
  replace h := z_bd h
  obtain ⟨u1, hq, h⟩ := h
  refine z_cvv (As := []) C0 hml hl.1 hW hS (c_X11_putsAside l D A b u hq) mv_X11_169 rfl ⟨Nat.le_of_ble_eq_true rfl, Nat.le_of_ble_eq_true rfl⟩ rfl rfl (Nat.le_of_ble_eq_true rfl) dX11_firstBy_1 (fun H locs hW hS => ?_)
  clear hq
  refine lv_iconst (v := (-1 : Int32)) hx hb dX11_firstBy_4 (by decide) ?_
  refine lv_istore (lv' := [(4, .int (-1 : Int32)), (0, .ref (b + 0)), (1, .int a1), (2, .int a2), (3, .int (bI a3))]) hx hb dX11_firstBy_5 hl (by decide) rfl (fun ls hl => ?_)
  refine lv_iconst (v := (0 : Int32)) hx hb dX11_firstBy_7 (by decide) ?_
  refine lv_istore (lv' := [(5, .int (0 : Int32)), (4, .int (-1 : Int32)), (0, .ref (b + 0)), (1, .int a1), (2, .int a2), (3, .int (bI a3))]) hx hb dX11_firstBy_8 hl (by decide) rfl (fun ls hl => ?_)
  exact l_X11_firstBy_10 C0 hr hml hlk 5000 _ _ _ _ _ _ _ _ _ h hW hS (lv_sub hl [2, 3, 4, 5, 1, 0] rfl)
def f_X11_boards (a1 : Int32) (a2 : Int32) (u : zU) : Option (Int32 × zU) :=
  z_let (f_X11_isRider a1 u) (fun t1 => if t1 = true then (z_let (f_X11_isDraw a2 u) (fun t2 => if t2 = true then (z_let (z_up u 0 0 (0 : Int32)) (fun u3 => if (u3 0 0) ≤ 0 then (z_b2 (f_X11_firstBy a1 a2 false u3) (fun r4 u5 => some (r4, u5))) else (some ((0 : Int32), u3)))) else (z_let (z_up u 0 0 (2 : Int32)) (fun u6 => if (u6 0 0) ≤ 0 then (z_b2 (f_X11_firstBy a1 a2 false u6) (fun r7 u8 => some (r7, u8))) else (some ((0 : Int32), u6)))))) else (z_let (z_up u 0 0 (1 : Int32)) (fun u9 => if (u9 0 0) ≤ 0 then (z_b2 (f_X11_firstBy a1 a2 false u9) (fun r10 u11 => some (r10, u11))) else (some ((0 : Int32), u9)))))
theorem f_X11_boards_e (a1 : Int32) (a2 : Int32) (u : zU) : f_X11_boards a1 a2 u = z_let (f_X11_isRider a1 u) (fun t1 => if t1 = true then (z_let (f_X11_isDraw a2 u) (fun t2 => if t2 = true then (z_let (z_up u 0 0 (0 : Int32)) (fun u3 => if (u3 0 0) ≤ 0 then (z_b2 (f_X11_firstBy a1 a2 false u3) (fun r4 u5 => some (r4, u5))) else (some ((0 : Int32), u3)))) else (z_let (z_up u 0 0 (2 : Int32)) (fun u6 => if (u6 0 0) ≤ 0 then (z_b2 (f_X11_firstBy a1 a2 false u6) (fun r7 u8 => some (r7, u8))) else (some ((0 : Int32), u6)))))) else (z_let (z_up u 0 0 (1 : Int32)) (fun u9 => if (u9 0 0) ≤ 0 then (z_b2 (f_X11_firstBy a1 a2 false u9) (fun r10 u11 => some (r10, u11))) else (some ((0 : Int32), u9))))) := rfl
set_option maxRecDepth 100000 in
set_option maxHeartbeats 4000000 in
theorem c_X11_boards (l : Launch) (D : zD) (A : Nat → Prop) (b : Nat) (a1 : Int32) (a2 : Int32) (u : zU) {v : Int32} {u' : zU} (h : f_X11_boards a1 a2 u = some (v, u')) : z_M l D A b gM yX11_boards cX11_boards 3 (some .int) 46 1453 [.ref (b + 0), .int a1, .int a2] u (some (.int v)) u' := by
  refine z_enter (by decide) (Nat.le_of_ble_eq_true rfl) ?_
  intro p e s m below meth c ls C0 hr hml hlk hW hS hl
  have hl : lv_has ls 3 [(0, .ref (b + 0)), (1, .int a1), (2, .int a2)] := hl
  have hx := C0.1
  have hb := C0.2.1
  rw [f_X11_boards_e] at h
  refine lv_aload_n hx hb dX11_boards_0 rfl (lv_at hl 0 rfl) ?_
  refine lv_aload_n hx hb dX11_boards_1 rfl (lv_at hl 0 rfl) ?_
  refine lv_iload_n hx hb dX11_boards_2 rfl (lv_at hl 1 rfl) ?_
  obtain ⟨t1, hq⟩ : ∃ y, f_X11_isRider a1 u = y := ⟨_, rfl⟩
  replace h := z_lz h hq
  refine z_cvi (As := [.int a1]) C0 hml hl.1 hW hS (c_X11_isRider l D A b a1 u hq) mv_X11_291 rfl ⟨Nat.le_of_ble_eq_true rfl, Nat.le_of_ble_eq_true rfl⟩ rfl rfl (Nat.le_of_ble_eq_true rfl) dX11_boards_3 (fun H locs hW hS => ?_)
  clear hq
  refine z_ifneZ C0 (tgt := 13) dX11_boards_6 (by decide) (fun hc => ?_) (fun hc => ?_)
  · replace h := z_t h hc
    clear hc
    refine lv_aload_n hx hb dX11_boards_13 rfl (lv_at hl 0 rfl) ?_
    refine lv_iload_n hx hb dX11_boards_14 rfl (lv_at hl 2 rfl) ?_
    obtain ⟨t2, hq⟩ : ∃ y, f_X11_isDraw a2 u = y := ⟨_, rfl⟩
    replace h := z_lz h hq
    refine z_cvi (As := [.int a2]) C0 hml hl.1 hW hS (c_X11_isDraw l D A b a2 u hq) mv_X11_347 rfl ⟨Nat.le_of_ble_eq_true rfl, Nat.le_of_ble_eq_true rfl⟩ rfl rfl (Nat.le_of_ble_eq_true rfl) dX11_boards_15 (fun H locs hW hS => ?_)
    clear hq
    refine z_ifneZ C0 (tgt := 25) dX11_boards_18 (by decide) (fun hc => ?_) (fun hc => ?_)
    · replace h := z_t h hc
      clear hc
      refine lv_iconst (v := (0 : Int32)) hx hb dX11_boards_25 (by decide) ?_
      refine z_puti C0 hW hS fl_X11_42 rfl rfl rfl rfl dX11_boards_26 (fun H locs u3 e1 hW hS => ?_)
      replace h := z_ly h e1
      clear e1
      refine lv_aload_n hx hb dX11_boards_29 rfl (lv_at hl 0 rfl) ?_
      refine z_geti C0 hW fl_X11_42 rfl rfl dX11_boards_30 ?_
      refine lv_if_le (tgt := 40) hx hb dX11_boards_33 (by decide) (fun hc => ?_) (fun hc => ?_)
      · replace h := z_t h hc
        clear hc
        refine lv_aload_n hx hb dX11_boards_40 rfl (lv_at hl 0 rfl) ?_
        refine lv_iload_n hx hb dX11_boards_41 rfl (lv_at hl 1 rfl) ?_
        refine lv_iload_n hx hb dX11_boards_42 rfl (lv_at hl 2 rfl) ?_
        refine lv_iconst (v := (0 : Int32)) hx hb dX11_boards_43 (by decide) ?_
        replace h := z_bd2 h
        obtain ⟨r4, u5, hq, h⟩ := h
        refine z_cvi (As := [.int a1, .int a2, .int (bI false)]) C0 hml hl.1 hW hS (c_X11_firstBy l D A b a1 a2 false u3 hq) mv_X11_350 rfl ⟨Nat.le_of_ble_eq_true rfl, Nat.le_of_ble_eq_true rfl⟩ rfl rfl (Nat.le_of_ble_eq_true rfl) dX11_boards_44 (fun H locs hW hS => ?_)
        clear hq
        cases h
        exact z_iret C0 hr hlk hW hS dX11_boards_47
      · replace h := z_f h hc
        clear hc
        refine lv_iconst (v := (0 : Int32)) hx hb dX11_boards_36 (by decide) ?_
        refine lv_goto (tgt := 47) hx hb dX11_boards_37 (by decide) ?_
        cases h
        exact z_iret C0 hr hlk hW hS dX11_boards_47
    · replace h := z_ff h hc
      clear hc
      refine lv_iconst (v := (2 : Int32)) hx hb dX11_boards_21 (by decide) ?_
      refine lv_goto (tgt := 26) hx hb dX11_boards_22 (by decide) ?_
      refine z_puti C0 hW hS fl_X11_42 rfl rfl rfl rfl dX11_boards_26 (fun H locs u6 e1 hW hS => ?_)
      replace h := z_ly h e1
      clear e1
      refine lv_aload_n hx hb dX11_boards_29 rfl (lv_at hl 0 rfl) ?_
      refine z_geti C0 hW fl_X11_42 rfl rfl dX11_boards_30 ?_
      refine lv_if_le (tgt := 40) hx hb dX11_boards_33 (by decide) (fun hc => ?_) (fun hc => ?_)
      · replace h := z_t h hc
        clear hc
        refine lv_aload_n hx hb dX11_boards_40 rfl (lv_at hl 0 rfl) ?_
        refine lv_iload_n hx hb dX11_boards_41 rfl (lv_at hl 1 rfl) ?_
        refine lv_iload_n hx hb dX11_boards_42 rfl (lv_at hl 2 rfl) ?_
        refine lv_iconst (v := (0 : Int32)) hx hb dX11_boards_43 (by decide) ?_
        replace h := z_bd2 h
        obtain ⟨r7, u8, hq, h⟩ := h
        refine z_cvi (As := [.int a1, .int a2, .int (bI false)]) C0 hml hl.1 hW hS (c_X11_firstBy l D A b a1 a2 false u6 hq) mv_X11_350 rfl ⟨Nat.le_of_ble_eq_true rfl, Nat.le_of_ble_eq_true rfl⟩ rfl rfl (Nat.le_of_ble_eq_true rfl) dX11_boards_44 (fun H locs hW hS => ?_)
        clear hq
        cases h
        exact z_iret C0 hr hlk hW hS dX11_boards_47
      · replace h := z_f h hc
        clear hc
        refine lv_iconst (v := (0 : Int32)) hx hb dX11_boards_36 (by decide) ?_
        refine lv_goto (tgt := 47) hx hb dX11_boards_37 (by decide) ?_
        cases h
        exact z_iret C0 hr hlk hW hS dX11_boards_47
  · replace h := z_ff h hc
    clear hc
    refine lv_iconst (v := (1 : Int32)) hx hb dX11_boards_9 (by decide) ?_
    refine lv_goto (tgt := 26) hx hb dX11_boards_10 (by decide) ?_
    refine z_puti C0 hW hS fl_X11_42 rfl rfl rfl rfl dX11_boards_26 (fun H locs u9 e1 hW hS => ?_)
    replace h := z_ly h e1
    clear e1
    refine lv_aload_n hx hb dX11_boards_29 rfl (lv_at hl 0 rfl) ?_
    refine z_geti C0 hW fl_X11_42 rfl rfl dX11_boards_30 ?_
    refine lv_if_le (tgt := 40) hx hb dX11_boards_33 (by decide) (fun hc => ?_) (fun hc => ?_)
    · replace h := z_t h hc
      clear hc
      refine lv_aload_n hx hb dX11_boards_40 rfl (lv_at hl 0 rfl) ?_
      refine lv_iload_n hx hb dX11_boards_41 rfl (lv_at hl 1 rfl) ?_
      refine lv_iload_n hx hb dX11_boards_42 rfl (lv_at hl 2 rfl) ?_
      refine lv_iconst (v := (0 : Int32)) hx hb dX11_boards_43 (by decide) ?_
      replace h := z_bd2 h
      obtain ⟨r10, u11, hq, h⟩ := h
      refine z_cvi (As := [.int a1, .int a2, .int (bI false)]) C0 hml hl.1 hW hS (c_X11_firstBy l D A b a1 a2 false u9 hq) mv_X11_350 rfl ⟨Nat.le_of_ble_eq_true rfl, Nat.le_of_ble_eq_true rfl⟩ rfl rfl (Nat.le_of_ble_eq_true rfl) dX11_boards_44 (fun H locs hW hS => ?_)
      clear hq
      cases h
      exact z_iret C0 hr hlk hW hS dX11_boards_47
    · replace h := z_f h hc
      clear hc
      refine lv_iconst (v := (0 : Int32)) hx hb dX11_boards_36 (by decide) ?_
      refine lv_goto (tgt := 47) hx hb dX11_boards_37 (by decide) ?_
      cases h
      exact z_iret C0 hr hlk hW hS dX11_boards_47
def f_X11_ruled (a1 : Int32) (a2 : Int32) (u : zU) : Option (Int32 × zU) :=
  z_let (f_X11_isRider a1 u) (fun t1 => if t1 = true then (z_let (f_X11_isDraw a2 u) (fun t2 => if t2 = true then (z_let (z_up u 0 0 (0 : Int32)) (fun u3 => if (u3 0 0) ≤ 0 then (z_b2 (f_X11_firstBy a1 a2 true u3) (fun r4 u5 => some (r4, u5))) else (some ((0 : Int32), u3)))) else (z_let (z_up u 0 0 (2 : Int32)) (fun u6 => if (u6 0 0) ≤ 0 then (z_b2 (f_X11_firstBy a1 a2 true u6) (fun r7 u8 => some (r7, u8))) else (some ((0 : Int32), u6)))))) else (z_let (z_up u 0 0 (1 : Int32)) (fun u9 => if (u9 0 0) ≤ 0 then (z_b2 (f_X11_firstBy a1 a2 true u9) (fun r10 u11 => some (r10, u11))) else (some ((0 : Int32), u9)))))
theorem f_X11_ruled_e (a1 : Int32) (a2 : Int32) (u : zU) : f_X11_ruled a1 a2 u = z_let (f_X11_isRider a1 u) (fun t1 => if t1 = true then (z_let (f_X11_isDraw a2 u) (fun t2 => if t2 = true then (z_let (z_up u 0 0 (0 : Int32)) (fun u3 => if (u3 0 0) ≤ 0 then (z_b2 (f_X11_firstBy a1 a2 true u3) (fun r4 u5 => some (r4, u5))) else (some ((0 : Int32), u3)))) else (z_let (z_up u 0 0 (2 : Int32)) (fun u6 => if (u6 0 0) ≤ 0 then (z_b2 (f_X11_firstBy a1 a2 true u6) (fun r7 u8 => some (r7, u8))) else (some ((0 : Int32), u6)))))) else (z_let (z_up u 0 0 (1 : Int32)) (fun u9 => if (u9 0 0) ≤ 0 then (z_b2 (f_X11_firstBy a1 a2 true u9) (fun r10 u11 => some (r10, u11))) else (some ((0 : Int32), u9))))) := rfl
set_option maxRecDepth 100000 in
set_option maxHeartbeats 4000000 in
theorem c_X11_ruled (l : Launch) (D : zD) (A : Nat → Prop) (b : Nat) (a1 : Int32) (a2 : Int32) (u : zU) {v : Int32} {u' : zU} (h : f_X11_ruled a1 a2 u = some (v, u')) : z_M l D A b gM yX11_ruled cX11_ruled 3 (some .int) 46 1453 [.ref (b + 0), .int a1, .int a2] u (some (.int v)) u' := by
  refine z_enter (by decide) (Nat.le_of_ble_eq_true rfl) ?_
  intro p e s m below meth c ls C0 hr hml hlk hW hS hl
  have hl : lv_has ls 3 [(0, .ref (b + 0)), (1, .int a1), (2, .int a2)] := hl
  have hx := C0.1
  have hb := C0.2.1
  rw [f_X11_ruled_e] at h
  refine lv_aload_n hx hb dX11_ruled_0 rfl (lv_at hl 0 rfl) ?_
  refine lv_aload_n hx hb dX11_ruled_1 rfl (lv_at hl 0 rfl) ?_
  refine lv_iload_n hx hb dX11_ruled_2 rfl (lv_at hl 1 rfl) ?_
  obtain ⟨t1, hq⟩ : ∃ y, f_X11_isRider a1 u = y := ⟨_, rfl⟩
  replace h := z_lz h hq
  refine z_cvi (As := [.int a1]) C0 hml hl.1 hW hS (c_X11_isRider l D A b a1 u hq) mv_X11_291 rfl ⟨Nat.le_of_ble_eq_true rfl, Nat.le_of_ble_eq_true rfl⟩ rfl rfl (Nat.le_of_ble_eq_true rfl) dX11_ruled_3 (fun H locs hW hS => ?_)
  clear hq
  refine z_ifneZ C0 (tgt := 13) dX11_ruled_6 (by decide) (fun hc => ?_) (fun hc => ?_)
  · replace h := z_t h hc
    clear hc
    refine lv_aload_n hx hb dX11_ruled_13 rfl (lv_at hl 0 rfl) ?_
    refine lv_iload_n hx hb dX11_ruled_14 rfl (lv_at hl 2 rfl) ?_
    obtain ⟨t2, hq⟩ : ∃ y, f_X11_isDraw a2 u = y := ⟨_, rfl⟩
    replace h := z_lz h hq
    refine z_cvi (As := [.int a2]) C0 hml hl.1 hW hS (c_X11_isDraw l D A b a2 u hq) mv_X11_347 rfl ⟨Nat.le_of_ble_eq_true rfl, Nat.le_of_ble_eq_true rfl⟩ rfl rfl (Nat.le_of_ble_eq_true rfl) dX11_ruled_15 (fun H locs hW hS => ?_)
    clear hq
    refine z_ifneZ C0 (tgt := 25) dX11_ruled_18 (by decide) (fun hc => ?_) (fun hc => ?_)
    · replace h := z_t h hc
      clear hc
      refine lv_iconst (v := (0 : Int32)) hx hb dX11_ruled_25 (by decide) ?_
      refine z_puti C0 hW hS fl_X11_42 rfl rfl rfl rfl dX11_ruled_26 (fun H locs u3 e1 hW hS => ?_)
      replace h := z_ly h e1
      clear e1
      refine lv_aload_n hx hb dX11_ruled_29 rfl (lv_at hl 0 rfl) ?_
      refine z_geti C0 hW fl_X11_42 rfl rfl dX11_ruled_30 ?_
      refine lv_if_le (tgt := 40) hx hb dX11_ruled_33 (by decide) (fun hc => ?_) (fun hc => ?_)
      · replace h := z_t h hc
        clear hc
        refine lv_aload_n hx hb dX11_ruled_40 rfl (lv_at hl 0 rfl) ?_
        refine lv_iload_n hx hb dX11_ruled_41 rfl (lv_at hl 1 rfl) ?_
        refine lv_iload_n hx hb dX11_ruled_42 rfl (lv_at hl 2 rfl) ?_
        refine lv_iconst (v := (1 : Int32)) hx hb dX11_ruled_43 (by decide) ?_
        replace h := z_bd2 h
        obtain ⟨r4, u5, hq, h⟩ := h
        refine z_cvi (As := [.int a1, .int a2, .int (bI true)]) C0 hml hl.1 hW hS (c_X11_firstBy l D A b a1 a2 true u3 hq) mv_X11_350 rfl ⟨Nat.le_of_ble_eq_true rfl, Nat.le_of_ble_eq_true rfl⟩ rfl rfl (Nat.le_of_ble_eq_true rfl) dX11_ruled_44 (fun H locs hW hS => ?_)
        clear hq
        cases h
        exact z_iret C0 hr hlk hW hS dX11_ruled_47
      · replace h := z_f h hc
        clear hc
        refine lv_iconst (v := (0 : Int32)) hx hb dX11_ruled_36 (by decide) ?_
        refine lv_goto (tgt := 47) hx hb dX11_ruled_37 (by decide) ?_
        cases h
        exact z_iret C0 hr hlk hW hS dX11_ruled_47
    · replace h := z_ff h hc
      clear hc
      refine lv_iconst (v := (2 : Int32)) hx hb dX11_ruled_21 (by decide) ?_
      refine lv_goto (tgt := 26) hx hb dX11_ruled_22 (by decide) ?_
      refine z_puti C0 hW hS fl_X11_42 rfl rfl rfl rfl dX11_ruled_26 (fun H locs u6 e1 hW hS => ?_)
      replace h := z_ly h e1
      clear e1
      refine lv_aload_n hx hb dX11_ruled_29 rfl (lv_at hl 0 rfl) ?_
      refine z_geti C0 hW fl_X11_42 rfl rfl dX11_ruled_30 ?_
      refine lv_if_le (tgt := 40) hx hb dX11_ruled_33 (by decide) (fun hc => ?_) (fun hc => ?_)
      · replace h := z_t h hc
        clear hc
        refine lv_aload_n hx hb dX11_ruled_40 rfl (lv_at hl 0 rfl) ?_
        refine lv_iload_n hx hb dX11_ruled_41 rfl (lv_at hl 1 rfl) ?_
        refine lv_iload_n hx hb dX11_ruled_42 rfl (lv_at hl 2 rfl) ?_
        refine lv_iconst (v := (1 : Int32)) hx hb dX11_ruled_43 (by decide) ?_
        replace h := z_bd2 h
        obtain ⟨r7, u8, hq, h⟩ := h
        refine z_cvi (As := [.int a1, .int a2, .int (bI true)]) C0 hml hl.1 hW hS (c_X11_firstBy l D A b a1 a2 true u6 hq) mv_X11_350 rfl ⟨Nat.le_of_ble_eq_true rfl, Nat.le_of_ble_eq_true rfl⟩ rfl rfl (Nat.le_of_ble_eq_true rfl) dX11_ruled_44 (fun H locs hW hS => ?_)
        clear hq
        cases h
        exact z_iret C0 hr hlk hW hS dX11_ruled_47
      · replace h := z_f h hc
        clear hc
        refine lv_iconst (v := (0 : Int32)) hx hb dX11_ruled_36 (by decide) ?_
        refine lv_goto (tgt := 47) hx hb dX11_ruled_37 (by decide) ?_
        cases h
        exact z_iret C0 hr hlk hW hS dX11_ruled_47
  · replace h := z_ff h hc
    clear hc
    refine lv_iconst (v := (1 : Int32)) hx hb dX11_ruled_9 (by decide) ?_
    refine lv_goto (tgt := 26) hx hb dX11_ruled_10 (by decide) ?_
    refine z_puti C0 hW hS fl_X11_42 rfl rfl rfl rfl dX11_ruled_26 (fun H locs u9 e1 hW hS => ?_)
    replace h := z_ly h e1
    clear e1
    refine lv_aload_n hx hb dX11_ruled_29 rfl (lv_at hl 0 rfl) ?_
    refine z_geti C0 hW fl_X11_42 rfl rfl dX11_ruled_30 ?_
    refine lv_if_le (tgt := 40) hx hb dX11_ruled_33 (by decide) (fun hc => ?_) (fun hc => ?_)
    · replace h := z_t h hc
      clear hc
      refine lv_aload_n hx hb dX11_ruled_40 rfl (lv_at hl 0 rfl) ?_
      refine lv_iload_n hx hb dX11_ruled_41 rfl (lv_at hl 1 rfl) ?_
      refine lv_iload_n hx hb dX11_ruled_42 rfl (lv_at hl 2 rfl) ?_
      refine lv_iconst (v := (1 : Int32)) hx hb dX11_ruled_43 (by decide) ?_
      replace h := z_bd2 h
      obtain ⟨r10, u11, hq, h⟩ := h
      refine z_cvi (As := [.int a1, .int a2, .int (bI true)]) C0 hml hl.1 hW hS (c_X11_firstBy l D A b a1 a2 true u9 hq) mv_X11_350 rfl ⟨Nat.le_of_ble_eq_true rfl, Nat.le_of_ble_eq_true rfl⟩ rfl rfl (Nat.le_of_ble_eq_true rfl) dX11_ruled_44 (fun H locs hW hS => ?_)
      clear hq
      cases h
      exact z_iret C0 hr hlk hW hS dX11_ruled_47
    · replace h := z_f h hc
      clear hc
      refine lv_iconst (v := (0 : Int32)) hx hb dX11_ruled_36 (by decide) ?_
      refine lv_goto (tgt := 47) hx hb dX11_ruled_37 (by decide) ?_
      cases h
      exact z_iret C0 hr hlk hW hS dX11_ruled_47
def f_X11_round_34 : Nat → Int32 → Int32 → Int32 → zU → Option (Int32 × zU)
  | 0, _, _, _, _ => none
  | n + 1, x1, x2, x3, u =>
    if (64 : Int32) < x3 then ((f_X11_comesBack u).bind (fun u4 => some (x2, u4))) else (if x2 = (-1 : Int32) then (z_b2 (f_X11_goes (1 : Int32) x1 u) (fun r6 u7 => (f_X11_isSame u7).bind (fun t8 => if t8 = true then (f_X11_round_34 n x1 x3 (x3 + (1 : Int32)) u7) else (f_X11_round_34 n x1 x2 (x3 + (1 : Int32)) u7)))) else ((f_X11_comesBack u).bind (fun u5 => some (x2, u5))))
theorem f_X11_round_34_s (n : Nat) (x1 : Int32) (x2 : Int32) (x3 : Int32) (u : zU) : f_X11_round_34 (n + 1) x1 x2 x3 u = if (64 : Int32) < x3 then ((f_X11_comesBack u).bind (fun u4 => some (x2, u4))) else (if x2 = (-1 : Int32) then (z_b2 (f_X11_goes (1 : Int32) x1 u) (fun r6 u7 => (f_X11_isSame u7).bind (fun t8 => if t8 = true then (f_X11_round_34 n x1 x3 (x3 + (1 : Int32)) u7) else (f_X11_round_34 n x1 x2 (x3 + (1 : Int32)) u7)))) else ((f_X11_comesBack u).bind (fun u5 => some (x2, u5)))) := rfl
def f_X11_round (a1 : Int32) (u : zU) : Option (Int32 × zU) :=
  z_let (f_X11_isDraw a1 u) (fun t1 => if t1 = true then (z_let (z_up u 0 0 (0 : Int32)) (fun u2 => if (u2 0 0) ≤ 0 then ((f_X11_putsAside u2).bind (fun u3 => f_X11_round_34 5000 a1 (-1 : Int32) (1 : Int32) u3)) else (some ((0 : Int32), u2)))) else (z_let (z_up u 0 0 (1 : Int32)) (fun u9 => if (u9 0 0) ≤ 0 then ((f_X11_putsAside u9).bind (fun u10 => f_X11_round_34 5000 a1 (-1 : Int32) (1 : Int32) u10)) else (some ((0 : Int32), u9)))))
set_option maxRecDepth 100000 in
set_option maxHeartbeats 4000000 in
theorem l_X11_round_34 {l : Launch} {D : zD} {A : Nat → Prop} {b : Nat} {p : Program} {e : Env} {s : State} {m : MethodId} {args : Array Value} {below : List Frame} {meth : Method} {c : Code} {v : Int32} {u' : zU} (C0 : z_C p c cX11_round s m args yX11_round.cls D A) (hr : meth.sig.returnType = (some .int)) (hml : c.maxLocals = 5) (hlk : meth.locks = false) : ∀ (n : Nat) (x1 : Int32) (x2 : Int32) (x3 : Int32) (u : zU) (H : Heap) (locs : List Loc) (ls : Array Slot), f_X11_round_34 n x1 x2 x3 u = some (v, u') → z_W D A b gM u H → va_S A s.heap H locs → lv_has ls 5 [(0, .ref (b + 0)), (1, .int x1), (2, .int x2), (3, .int x3)] → W p l e { frames := 45, cells := 0, slots := 0, locals := 1427 } s m args below meth c H locs 0 0 (z_End D A b gM below args s (some (.int v)) u') (F0 m 34 ls []) := by
  have hx := C0.1
  have hb := C0.2.1
  intro n
  induction n with
  | zero => intro x1 x2 x3 u H locs ls h hW hS hl; cases h
  | succ n ih =>
    intro x1 x2 x3 u H locs ls h hW hS hl
    rw [f_X11_round_34_s] at h
    refine lv_iload_n hx hb dX11_round_34 rfl (lv_at hl 3 rfl) ?_
    refine lv_bipush (v := (64 : Int32)) hx hb dX11_round_35 (by decide) ?_
    refine lv_icmp_gt (tgt := 68) hx hb dX11_round_37 (by decide) (fun hc => ?_) (fun hc => ?_)
    · replace h := z_t h hc
      clear hc
      refine lv_aload_n hx hb dX11_round_68 rfl (lv_at hl 0 rfl) ?_
      replace h := z_bd h
      obtain ⟨u4, hq, h⟩ := h
      refine z_cvv (As := []) C0 hml hl.1 hW hS (c_X11_comesBack l D A b u hq) mv_X11_179 rfl ⟨Nat.le_of_ble_eq_true rfl, Nat.le_of_ble_eq_true rfl⟩ rfl rfl (Nat.le_of_ble_eq_true rfl) dX11_round_69 (fun H locs hW hS => ?_)
      clear hq
      refine lv_iload_n hx hb dX11_round_72 rfl (lv_at hl 2 rfl) ?_
      cases h
      exact z_iret C0 hr hlk hW hS dX11_round_73
    · replace h := z_f h hc
      clear hc
      refine lv_iload_n hx hb dX11_round_40 rfl (lv_at hl 2 rfl) ?_
      refine lv_iconst (v := (-1 : Int32)) hx hb dX11_round_41 (by decide) ?_
      refine lv_icmp_ne (tgt := 68) hx hb dX11_round_42 (by decide) (fun hc => ?_) (fun hc => ?_)
      · replace h := z_f h hc
        clear hc
        refine lv_aload_n hx hb dX11_round_68 rfl (lv_at hl 0 rfl) ?_
        replace h := z_bd h
        obtain ⟨u5, hq, h⟩ := h
        refine z_cvv (As := []) C0 hml hl.1 hW hS (c_X11_comesBack l D A b u hq) mv_X11_179 rfl ⟨Nat.le_of_ble_eq_true rfl, Nat.le_of_ble_eq_true rfl⟩ rfl rfl (Nat.le_of_ble_eq_true rfl) dX11_round_69 (fun H locs hW hS => ?_)
        clear hq
        refine lv_iload_n hx hb dX11_round_72 rfl (lv_at hl 2 rfl) ?_
        cases h
        exact z_iret C0 hr hlk hW hS dX11_round_73
      · replace h := z_t h hc
        clear hc
        refine lv_aload_n hx hb dX11_round_45 rfl (lv_at hl 0 rfl) ?_
        refine lv_iconst (v := (1 : Int32)) hx hb dX11_round_46 (by decide) ?_
        refine lv_iload_n hx hb dX11_round_47 rfl (lv_at hl 1 rfl) ?_
        replace h := z_bd2 h
        obtain ⟨r6, u7, hq, h⟩ := h
        refine z_cvi (As := [.int (1 : Int32), .int x1]) C0 hml hl.1 hW hS (c_X11_goes l D A b (1 : Int32) x1 u hq) mv_X11_321 rfl ⟨Nat.le_of_ble_eq_true rfl, Nat.le_of_ble_eq_true rfl⟩ rfl rfl (Nat.le_of_ble_eq_true rfl) dX11_round_48 (fun H locs hW hS => ?_)
        clear hq
        refine lv_istore (lv' := [(4, .int r6), (0, .ref (b + 0)), (1, .int x1), (2, .int x2), (3, .int x3)]) hx hb dX11_round_51 hl (by decide) rfl (fun ls hl => ?_)
        refine lv_aload_n hx hb dX11_round_53 rfl (lv_at hl 1 rfl) ?_
        replace h := z_bd h
        obtain ⟨t8, hq, h⟩ := h
        refine z_cvi (As := []) C0 hml hl.1 hW hS (c_X11_isSame l D A b u7 hq) mv_X11_354 rfl ⟨Nat.le_of_ble_eq_true rfl, Nat.le_of_ble_eq_true rfl⟩ rfl rfl (Nat.le_of_ble_eq_true rfl) dX11_round_54 (fun H locs hW hS => ?_)
        clear hq
        refine z_ifeqZ C0 (tgt := 62) dX11_round_57 (by decide) (fun hc => ?_) (fun hc => ?_)
        · replace h := z_ff h hc
          clear hc
          refine lv_iinc (v := x3 + (1 : Int32)) (lv' := [(3, .int (x3 + (1 : Int32))), (4, .int r6), (0, .ref (b + 0)), (1, .int x1), (2, .int x2)]) hx hb dX11_round_62 hl (k := 4) rfl rfl (by decide) rfl (fun ls hl => ?_)
          refine lv_goto (tgt := 34) hx hb dX11_round_65 (by decide) ?_
          exact ih _ _ _ _ _ _ _ h hW hS (lv_sub hl [2, 3, 4, 0] rfl)
        · replace h := z_t h hc
          clear hc
          refine lv_iload_n hx hb dX11_round_60 rfl (lv_at hl 4 rfl) ?_
          refine lv_istore_n (lv' := [(2, .int x3), (4, .int r6), (0, .ref (b + 0)), (1, .int x1), (3, .int x3)]) hx hb dX11_round_61 rfl hl (by decide) rfl (fun ls hl => ?_)
          refine lv_iinc (v := x3 + (1 : Int32)) (lv' := [(3, .int (x3 + (1 : Int32))), (2, .int x3), (4, .int r6), (0, .ref (b + 0)), (1, .int x1)]) hx hb dX11_round_62 hl (k := 4) rfl rfl (by decide) rfl (fun ls hl => ?_)
          refine lv_goto (tgt := 34) hx hb dX11_round_65 (by decide) ?_
          exact ih _ _ _ _ _ _ _ h hW hS (lv_sub hl [3, 4, 1, 0] rfl)
theorem f_X11_round_e (a1 : Int32) (u : zU) : f_X11_round a1 u = z_let (f_X11_isDraw a1 u) (fun t1 => if t1 = true then (z_let (z_up u 0 0 (0 : Int32)) (fun u2 => if (u2 0 0) ≤ 0 then ((f_X11_putsAside u2).bind (fun u3 => f_X11_round_34 5000 a1 (-1 : Int32) (1 : Int32) u3)) else (some ((0 : Int32), u2)))) else (z_let (z_up u 0 0 (1 : Int32)) (fun u9 => if (u9 0 0) ≤ 0 then ((f_X11_putsAside u9).bind (fun u10 => f_X11_round_34 5000 a1 (-1 : Int32) (1 : Int32) u10)) else (some ((0 : Int32), u9))))) := rfl
set_option maxRecDepth 100000 in
set_option maxHeartbeats 4000000 in
theorem c_X11_round (l : Launch) (D : zD) (A : Nat → Prop) (b : Nat) (a1 : Int32) (u : zU) {v : Int32} {u' : zU} (h : f_X11_round a1 u = some (v, u')) : z_M l D A b gM yX11_round cX11_round 5 (some .int) 45 1427 [.ref (b + 0), .int a1] u (some (.int v)) u' := by
  refine z_enter (by decide) (Nat.le_of_ble_eq_true rfl) ?_
  intro p e s m below meth c ls C0 hr hml hlk hW hS hl
  have hl : lv_has ls 5 [(0, .ref (b + 0)), (1, .int a1)] := hl
  have hx := C0.1
  have hb := C0.2.1
  rw [f_X11_round_e] at h
  refine lv_aload_n hx hb dX11_round_0 rfl (lv_at hl 0 rfl) ?_
  refine lv_aload_n hx hb dX11_round_1 rfl (lv_at hl 0 rfl) ?_
  refine lv_iload_n hx hb dX11_round_2 rfl (lv_at hl 1 rfl) ?_
  obtain ⟨t1, hq⟩ : ∃ y, f_X11_isDraw a1 u = y := ⟨_, rfl⟩
  replace h := z_lz h hq
  refine z_cvi (As := [.int a1]) C0 hml hl.1 hW hS (c_X11_isDraw l D A b a1 u hq) mv_X11_347 rfl ⟨Nat.le_of_ble_eq_true rfl, Nat.le_of_ble_eq_true rfl⟩ rfl rfl (Nat.le_of_ble_eq_true rfl) dX11_round_3 (fun H locs hW hS => ?_)
  clear hq
  refine z_ifneZ C0 (tgt := 13) dX11_round_6 (by decide) (fun hc => ?_) (fun hc => ?_)
  · replace h := z_t h hc
    clear hc
    refine lv_iconst (v := (0 : Int32)) hx hb dX11_round_13 (by decide) ?_
    refine z_puti C0 hW hS fl_X11_42 rfl rfl rfl rfl dX11_round_14 (fun H locs u2 e1 hW hS => ?_)
    replace h := z_ly h e1
    clear e1
    refine lv_aload_n hx hb dX11_round_17 rfl (lv_at hl 0 rfl) ?_
    refine z_geti C0 hW fl_X11_42 rfl rfl dX11_round_18 ?_
    refine lv_if_le (tgt := 26) hx hb dX11_round_21 (by decide) (fun hc => ?_) (fun hc => ?_)
    · replace h := z_t h hc
      clear hc
      refine lv_aload_n hx hb dX11_round_26 rfl (lv_at hl 0 rfl) ?_
      replace h := z_bd h
      obtain ⟨u3, hq, h⟩ := h
      refine z_cvv (As := []) C0 hml hl.1 hW hS (c_X11_putsAside l D A b u2 hq) mv_X11_169 rfl ⟨Nat.le_of_ble_eq_true rfl, Nat.le_of_ble_eq_true rfl⟩ rfl rfl (Nat.le_of_ble_eq_true rfl) dX11_round_27 (fun H locs hW hS => ?_)
      clear hq
      refine lv_iconst (v := (-1 : Int32)) hx hb dX11_round_30 (by decide) ?_
      refine lv_istore_n (lv' := [(2, .int (-1 : Int32)), (0, .ref (b + 0)), (1, .int a1)]) hx hb dX11_round_31 rfl hl (by decide) rfl (fun ls hl => ?_)
      refine lv_iconst (v := (1 : Int32)) hx hb dX11_round_32 (by decide) ?_
      refine lv_istore_n (lv' := [(3, .int (1 : Int32)), (2, .int (-1 : Int32)), (0, .ref (b + 0)), (1, .int a1)]) hx hb dX11_round_33 rfl hl (by decide) rfl (fun ls hl => ?_)
      exact l_X11_round_34 C0 hr hml hlk 5000 _ _ _ _ _ _ _ h hW hS (lv_sub hl [2, 3, 1, 0] rfl)
    · replace h := z_f h hc
      clear hc
      refine lv_iconst (v := (0 : Int32)) hx hb dX11_round_24 (by decide) ?_
      cases h
      exact z_iret C0 hr hlk hW hS dX11_round_25
  · replace h := z_ff h hc
    clear hc
    refine lv_iconst (v := (1 : Int32)) hx hb dX11_round_9 (by decide) ?_
    refine lv_goto (tgt := 14) hx hb dX11_round_10 (by decide) ?_
    refine z_puti C0 hW hS fl_X11_42 rfl rfl rfl rfl dX11_round_14 (fun H locs u9 e1 hW hS => ?_)
    replace h := z_ly h e1
    clear e1
    refine lv_aload_n hx hb dX11_round_17 rfl (lv_at hl 0 rfl) ?_
    refine z_geti C0 hW fl_X11_42 rfl rfl dX11_round_18 ?_
    refine lv_if_le (tgt := 26) hx hb dX11_round_21 (by decide) (fun hc => ?_) (fun hc => ?_)
    · replace h := z_t h hc
      clear hc
      refine lv_aload_n hx hb dX11_round_26 rfl (lv_at hl 0 rfl) ?_
      replace h := z_bd h
      obtain ⟨u10, hq, h⟩ := h
      refine z_cvv (As := []) C0 hml hl.1 hW hS (c_X11_putsAside l D A b u9 hq) mv_X11_169 rfl ⟨Nat.le_of_ble_eq_true rfl, Nat.le_of_ble_eq_true rfl⟩ rfl rfl (Nat.le_of_ble_eq_true rfl) dX11_round_27 (fun H locs hW hS => ?_)
      clear hq
      refine lv_iconst (v := (-1 : Int32)) hx hb dX11_round_30 (by decide) ?_
      refine lv_istore_n (lv' := [(2, .int (-1 : Int32)), (0, .ref (b + 0)), (1, .int a1)]) hx hb dX11_round_31 rfl hl (by decide) rfl (fun ls hl => ?_)
      refine lv_iconst (v := (1 : Int32)) hx hb dX11_round_32 (by decide) ?_
      refine lv_istore_n (lv' := [(3, .int (1 : Int32)), (2, .int (-1 : Int32)), (0, .ref (b + 0)), (1, .int a1)]) hx hb dX11_round_33 rfl hl (by decide) rfl (fun ls hl => ?_)
      exact l_X11_round_34 C0 hr hml hlk 5000 _ _ _ _ _ _ _ h hW hS (lv_sub hl [2, 3, 1, 0] rfl)
    · replace h := z_f h hc
      clear hc
      refine lv_iconst (v := (0 : Int32)) hx hb dX11_round_24 (by decide) ?_
      cases h
      exact z_iret C0 hr hlk hW hS dX11_round_25
def f_X11_ruin_53 : Nat → Int32 → Int32 → zU → Option (Int32 × zU)
  | 0, _, _, _ => none
  | n + 1, x4, x5, u =>
    if (u 1 3) ≤ x5 then ((f_X11_comesBack u).bind (fun u6 => some (x4, u6))) else ((f_X11_of x5 (2 : Int32) u).bind (fun r7 => if r7 = 0 then (z_let (x4 ||| ((1 : Int32) <<< (x5 &&& 31))) (fun z9 => f_X11_ruin_53 n z9 (x5 + (1 : Int32)) u)) else (z_let (x4 ||| (0 : Int32)) (fun z8 => f_X11_ruin_53 n z8 (x5 + (1 : Int32)) u))))
theorem f_X11_ruin_53_s (n : Nat) (x4 : Int32) (x5 : Int32) (u : zU) : f_X11_ruin_53 (n + 1) x4 x5 u = if (u 1 3) ≤ x5 then ((f_X11_comesBack u).bind (fun u6 => some (x4, u6))) else ((f_X11_of x5 (2 : Int32) u).bind (fun r7 => if r7 = 0 then (z_let (x4 ||| ((1 : Int32) <<< (x5 &&& 31))) (fun z9 => f_X11_ruin_53 n z9 (x5 + (1 : Int32)) u)) else (z_let (x4 ||| (0 : Int32)) (fun z8 => f_X11_ruin_53 n z8 (x5 + (1 : Int32)) u)))) := rfl
def f_X11_ruin (a1 : Int32) (a2 : Int32) (u : zU) : Option (Int32 × zU) :=
  z_let (f_X11_isDraw a1 u) (fun t1 => if t1 = true then (z_let (f_X11_isIn a2 (0 : Int32) (100 : Int32) u) (fun t10 => if t10 = true then (z_let (z_up u 0 0 (0 : Int32)) (fun u11 => if (u11 0 0) ≤ 0 then ((f_X11_putsAside u11).bind (fun u12 => z_b2 (f_X11_goes a2 a1 u12) (fun r13 u14 => f_X11_ruin_53 5000 (0 : Int32) (0 : Int32) u14))) else (some ((0 : Int32), u11)))) else (z_let (z_up u 0 0 (1 : Int32)) (fun u15 => if (u15 0 0) ≤ 0 then ((f_X11_putsAside u15).bind (fun u16 => z_b2 (f_X11_goes a2 a1 u16) (fun r17 u18 => f_X11_ruin_53 5000 (0 : Int32) (0 : Int32) u18))) else (some ((0 : Int32), u15)))))) else (z_let (z_up u 0 0 (1 : Int32)) (fun u2 => if (u2 0 0) ≤ 0 then ((f_X11_putsAside u2).bind (fun u3 => z_b2 (f_X11_goes a2 a1 u3) (fun r4 u5 => f_X11_ruin_53 5000 (0 : Int32) (0 : Int32) u5))) else (some ((0 : Int32), u2)))))
set_option maxRecDepth 100000 in
set_option maxHeartbeats 4000000 in
theorem l_X11_ruin_53 {l : Launch} {D : zD} {A : Nat → Prop} {b : Nat} {p : Program} {e : Env} {s : State} {m : MethodId} {args : Array Value} {below : List Frame} {meth : Method} {c : Code} {v : Int32} {u' : zU} (C0 : z_C p c cX11_ruin s m args yX11_ruin.cls D A) (hr : meth.sig.returnType = (some .int)) (hml : c.maxLocals = 6) (hlk : meth.locks = false) : ∀ (n : Nat) (x4 : Int32) (x5 : Int32) (u : zU) (H : Heap) (locs : List Loc) (ls : Array Slot), f_X11_ruin_53 n x4 x5 u = some (v, u') → z_W D A b gM u H → va_S A s.heap H locs → lv_has ls 6 [(0, .ref (b + 0)), (4, .int x4), (5, .int x5)] → W p l e { frames := 45, cells := 0, slots := 0, locals := 1427 } s m args below meth c H locs 0 0 (z_End D A b gM below args s (some (.int v)) u') (F0 m 53 ls []) := by
  have hx := C0.1
  have hb := C0.2.1
  intro n
  induction n with
  | zero => intro x4 x5 u H locs ls h hW hS hl; cases h
  | succ n ih =>
    intro x4 x5 u H locs ls h hW hS hl
    rw [f_X11_ruin_53_s] at h
    refine lv_iload hx hb dX11_ruin_53 (lv_at hl 2 rfl) ?_
    refine lv_aload_n hx hb dX11_ruin_55 rfl (lv_at hl 0 rfl) ?_
    refine z_getr (o := 1) C0 hW fl_X11_7 rfl rfl rfl dX11_ruin_56 ?_
    refine lv_iconst (v := (3 : Int32)) hx hb dX11_ruin_59 (by decide) ?_
    refine z_iald (k := 3) (n := 705) C0 hW rfl rfl (by decide) (by decide) dX11_ruin_60 ?_
    refine lv_icmp_ge (tgt := 93) hx hb dX11_ruin_61 (by decide) (fun hc => ?_) (fun hc => ?_)
    · replace h := z_t h hc
      clear hc
      refine lv_aload_n hx hb dX11_ruin_93 rfl (lv_at hl 0 rfl) ?_
      replace h := z_bd h
      obtain ⟨u6, hq, h⟩ := h
      refine z_cvv (As := []) C0 hml hl.1 hW hS (c_X11_comesBack l D A b u hq) mv_X11_179 rfl ⟨Nat.le_of_ble_eq_true rfl, Nat.le_of_ble_eq_true rfl⟩ rfl rfl (Nat.le_of_ble_eq_true rfl) dX11_ruin_94 (fun H locs hW hS => ?_)
      clear hq
      refine lv_iload hx hb dX11_ruin_97 (lv_at hl 1 rfl) ?_
      cases h
      exact z_iret C0 hr hlk hW hS dX11_ruin_99
    · replace h := z_f h hc
      clear hc
      refine lv_iload hx hb dX11_ruin_64 (lv_at hl 1 rfl) ?_
      refine lv_aload_n hx hb dX11_ruin_66 rfl (lv_at hl 0 rfl) ?_
      refine lv_iload hx hb dX11_ruin_67 (lv_at hl 2 rfl) ?_
      refine lv_iconst (v := (2 : Int32)) hx hb dX11_ruin_69 (by decide) ?_
      replace h := z_bd h
      obtain ⟨r7, hq, h⟩ := h
      refine z_cvi (As := [.int x5, .int (2 : Int32)]) C0 hml hl.1 hW hS (c_X11_of l D A b x5 (2 : Int32) u hq) mv_X11_49 rfl ⟨Nat.le_of_ble_eq_true rfl, Nat.le_of_ble_eq_true rfl⟩ rfl rfl (Nat.le_of_ble_eq_true rfl) dX11_ruin_70 (fun H locs hW hS => ?_)
      clear hq
      refine lv_if_ne (tgt := 83) hx hb dX11_ruin_73 (by decide) (fun hc => ?_) (fun hc => ?_)
      · replace h := z_f h hc
        clear hc
        refine lv_iconst (v := (0 : Int32)) hx hb dX11_ruin_83 (by decide) ?_
        refine lv_ior hx hb dX11_ruin_84 ?_
        refine lv_topi (fun z8 e1 => ?_)
        replace h := z_ly h e1
        clear e1
        refine lv_istore (lv' := [(4, .int z8), (0, .ref (b + 0)), (5, .int x5)]) hx hb dX11_ruin_85 hl (by decide) rfl (fun ls hl => ?_)
        refine lv_iinc (v := x5 + (1 : Int32)) (lv' := [(5, .int (x5 + (1 : Int32))), (4, .int z8), (0, .ref (b + 0))]) hx hb dX11_ruin_87 hl (k := 2) rfl rfl (by decide) rfl (fun ls hl => ?_)
        refine lv_goto (tgt := 53) hx hb dX11_ruin_90 (by decide) ?_
        exact ih _ _ _ _ _ _ h hW hS (lv_sub hl [2, 1, 0] rfl)
      · replace h := z_t h hc
        clear hc
        refine lv_iconst (v := (1 : Int32)) hx hb dX11_ruin_76 (by decide) ?_
        refine lv_iload hx hb dX11_ruin_77 (lv_at hl 2 rfl) ?_
        refine lv_ishl hx hb dX11_ruin_79 ?_
        refine lv_goto (tgt := 84) hx hb dX11_ruin_80 (by decide) ?_
        refine lv_ior hx hb dX11_ruin_84 ?_
        refine lv_topi (fun z9 e1 => ?_)
        replace h := z_ly h e1
        clear e1
        refine lv_istore (lv' := [(4, .int z9), (0, .ref (b + 0)), (5, .int x5)]) hx hb dX11_ruin_85 hl (by decide) rfl (fun ls hl => ?_)
        refine lv_iinc (v := x5 + (1 : Int32)) (lv' := [(5, .int (x5 + (1 : Int32))), (4, .int z9), (0, .ref (b + 0))]) hx hb dX11_ruin_87 hl (k := 2) rfl rfl (by decide) rfl (fun ls hl => ?_)
        refine lv_goto (tgt := 53) hx hb dX11_ruin_90 (by decide) ?_
        exact ih _ _ _ _ _ _ h hW hS (lv_sub hl [2, 1, 0] rfl)
theorem f_X11_ruin_e (a1 : Int32) (a2 : Int32) (u : zU) : f_X11_ruin a1 a2 u = z_let (f_X11_isDraw a1 u) (fun t1 => if t1 = true then (z_let (f_X11_isIn a2 (0 : Int32) (100 : Int32) u) (fun t10 => if t10 = true then (z_let (z_up u 0 0 (0 : Int32)) (fun u11 => if (u11 0 0) ≤ 0 then ((f_X11_putsAside u11).bind (fun u12 => z_b2 (f_X11_goes a2 a1 u12) (fun r13 u14 => f_X11_ruin_53 5000 (0 : Int32) (0 : Int32) u14))) else (some ((0 : Int32), u11)))) else (z_let (z_up u 0 0 (1 : Int32)) (fun u15 => if (u15 0 0) ≤ 0 then ((f_X11_putsAside u15).bind (fun u16 => z_b2 (f_X11_goes a2 a1 u16) (fun r17 u18 => f_X11_ruin_53 5000 (0 : Int32) (0 : Int32) u18))) else (some ((0 : Int32), u15)))))) else (z_let (z_up u 0 0 (1 : Int32)) (fun u2 => if (u2 0 0) ≤ 0 then ((f_X11_putsAside u2).bind (fun u3 => z_b2 (f_X11_goes a2 a1 u3) (fun r4 u5 => f_X11_ruin_53 5000 (0 : Int32) (0 : Int32) u5))) else (some ((0 : Int32), u2))))) := rfl
set_option maxRecDepth 100000 in
set_option maxHeartbeats 4000000 in
theorem c_X11_ruin (l : Launch) (D : zD) (A : Nat → Prop) (b : Nat) (a1 : Int32) (a2 : Int32) (u : zU) {v : Int32} {u' : zU} (h : f_X11_ruin a1 a2 u = some (v, u')) : z_M l D A b gM yX11_ruin cX11_ruin 6 (some .int) 45 1427 [.ref (b + 0), .int a1, .int a2] u (some (.int v)) u' := by
  refine z_enter (by decide) (Nat.le_of_ble_eq_true rfl) ?_
  intro p e s m below meth c ls C0 hr hml hlk hW hS hl
  have hl : lv_has ls 6 [(0, .ref (b + 0)), (1, .int a1), (2, .int a2)] := hl
  have hx := C0.1
  have hb := C0.2.1
  rw [f_X11_ruin_e] at h
  refine lv_aload_n hx hb dX11_ruin_0 rfl (lv_at hl 0 rfl) ?_
  refine lv_aload_n hx hb dX11_ruin_1 rfl (lv_at hl 0 rfl) ?_
  refine lv_iload_n hx hb dX11_ruin_2 rfl (lv_at hl 1 rfl) ?_
  obtain ⟨t1, hq⟩ : ∃ y, f_X11_isDraw a1 u = y := ⟨_, rfl⟩
  replace h := z_lz h hq
  refine z_cvi (As := [.int a1]) C0 hml hl.1 hW hS (c_X11_isDraw l D A b a1 u hq) mv_X11_347 rfl ⟨Nat.le_of_ble_eq_true rfl, Nat.le_of_ble_eq_true rfl⟩ rfl rfl (Nat.le_of_ble_eq_true rfl) dX11_ruin_3 (fun H locs hW hS => ?_)
  clear hq
  refine z_ifeqZ C0 (tgt := 19) dX11_ruin_6 (by decide) (fun hc => ?_) (fun hc => ?_)
  · replace h := z_ff h hc
    clear hc
    refine lv_iconst (v := (1 : Int32)) hx hb dX11_ruin_19 (by decide) ?_
    refine lv_goto (tgt := 24) hx hb dX11_ruin_20 (by decide) ?_
    refine z_puti C0 hW hS fl_X11_42 rfl rfl rfl rfl dX11_ruin_24 (fun H locs u2 e1 hW hS => ?_)
    replace h := z_ly h e1
    clear e1
    refine lv_aload_n hx hb dX11_ruin_27 rfl (lv_at hl 0 rfl) ?_
    refine z_geti C0 hW fl_X11_42 rfl rfl dX11_ruin_28 ?_
    refine lv_if_le (tgt := 36) hx hb dX11_ruin_31 (by decide) (fun hc => ?_) (fun hc => ?_)
    · replace h := z_t h hc
      clear hc
      refine lv_aload_n hx hb dX11_ruin_36 rfl (lv_at hl 0 rfl) ?_
      replace h := z_bd h
      obtain ⟨u3, hq, h⟩ := h
      refine z_cvv (As := []) C0 hml hl.1 hW hS (c_X11_putsAside l D A b u2 hq) mv_X11_169 rfl ⟨Nat.le_of_ble_eq_true rfl, Nat.le_of_ble_eq_true rfl⟩ rfl rfl (Nat.le_of_ble_eq_true rfl) dX11_ruin_37 (fun H locs hW hS => ?_)
      clear hq
      refine lv_aload_n hx hb dX11_ruin_40 rfl (lv_at hl 0 rfl) ?_
      refine lv_iload_n hx hb dX11_ruin_41 rfl (lv_at hl 2 rfl) ?_
      refine lv_iload_n hx hb dX11_ruin_42 rfl (lv_at hl 1 rfl) ?_
      replace h := z_bd2 h
      obtain ⟨r4, u5, hq, h⟩ := h
      refine z_cvi (As := [.int a2, .int a1]) C0 hml hl.1 hW hS (c_X11_goes l D A b a2 a1 u3 hq) mv_X11_321 rfl ⟨Nat.le_of_ble_eq_true rfl, Nat.le_of_ble_eq_true rfl⟩ rfl rfl (Nat.le_of_ble_eq_true rfl) dX11_ruin_43 (fun H locs hW hS => ?_)
      clear hq
      refine lv_istore_n (lv' := [(3, .int r4), (0, .ref (b + 0)), (1, .int a1), (2, .int a2)]) hx hb dX11_ruin_46 rfl hl (by decide) rfl (fun ls hl => ?_)
      refine lv_iconst (v := (0 : Int32)) hx hb dX11_ruin_47 (by decide) ?_
      refine lv_istore (lv' := [(4, .int (0 : Int32)), (3, .int r4), (0, .ref (b + 0)), (1, .int a1), (2, .int a2)]) hx hb dX11_ruin_48 hl (by decide) rfl (fun ls hl => ?_)
      refine lv_iconst (v := (0 : Int32)) hx hb dX11_ruin_50 (by decide) ?_
      refine lv_istore (lv' := [(5, .int (0 : Int32)), (4, .int (0 : Int32)), (3, .int r4), (0, .ref (b + 0)), (1, .int a1), (2, .int a2)]) hx hb dX11_ruin_51 hl (by decide) rfl (fun ls hl => ?_)
      exact l_X11_ruin_53 C0 hr hml hlk 5000 _ _ _ _ _ _ h hW hS (lv_sub hl [3, 1, 0] rfl)
    · replace h := z_f h hc
      clear hc
      refine lv_iconst (v := (0 : Int32)) hx hb dX11_ruin_34 (by decide) ?_
      cases h
      exact z_iret C0 hr hlk hW hS dX11_ruin_35
  · replace h := z_t h hc
    clear hc
    refine lv_iload_n hx hb dX11_ruin_9 rfl (lv_at hl 2 rfl) ?_
    refine lv_iconst (v := (0 : Int32)) hx hb dX11_ruin_10 (by decide) ?_
    refine lv_bipush (v := (100 : Int32)) hx hb dX11_ruin_11 (by decide) ?_
    obtain ⟨t10, hq⟩ : ∃ y, f_X11_isIn a2 (0 : Int32) (100 : Int32) u = y := ⟨_, rfl⟩
    replace h := z_lz h hq
    refine z_csi (As := [.int a2, .int (0 : Int32), .int (100 : Int32)]) C0 hml hl.1 hW hS (c_X11_isIn l D A b a2 (0 : Int32) (100 : Int32) u hq) ms_X11_45 ⟨Nat.le_of_ble_eq_true rfl, Nat.le_of_ble_eq_true rfl⟩ rfl rfl (Nat.le_of_ble_eq_true rfl) dX11_ruin_13 (fun H locs hW hS => ?_)
    clear hq
    refine z_ifneZ C0 (tgt := 23) dX11_ruin_16 (by decide) (fun hc => ?_) (fun hc => ?_)
    · replace h := z_t h hc
      clear hc
      refine lv_iconst (v := (0 : Int32)) hx hb dX11_ruin_23 (by decide) ?_
      refine z_puti C0 hW hS fl_X11_42 rfl rfl rfl rfl dX11_ruin_24 (fun H locs u11 e1 hW hS => ?_)
      replace h := z_ly h e1
      clear e1
      refine lv_aload_n hx hb dX11_ruin_27 rfl (lv_at hl 0 rfl) ?_
      refine z_geti C0 hW fl_X11_42 rfl rfl dX11_ruin_28 ?_
      refine lv_if_le (tgt := 36) hx hb dX11_ruin_31 (by decide) (fun hc => ?_) (fun hc => ?_)
      · replace h := z_t h hc
        clear hc
        refine lv_aload_n hx hb dX11_ruin_36 rfl (lv_at hl 0 rfl) ?_
        replace h := z_bd h
        obtain ⟨u12, hq, h⟩ := h
        refine z_cvv (As := []) C0 hml hl.1 hW hS (c_X11_putsAside l D A b u11 hq) mv_X11_169 rfl ⟨Nat.le_of_ble_eq_true rfl, Nat.le_of_ble_eq_true rfl⟩ rfl rfl (Nat.le_of_ble_eq_true rfl) dX11_ruin_37 (fun H locs hW hS => ?_)
        clear hq
        refine lv_aload_n hx hb dX11_ruin_40 rfl (lv_at hl 0 rfl) ?_
        refine lv_iload_n hx hb dX11_ruin_41 rfl (lv_at hl 2 rfl) ?_
        refine lv_iload_n hx hb dX11_ruin_42 rfl (lv_at hl 1 rfl) ?_
        replace h := z_bd2 h
        obtain ⟨r13, u14, hq, h⟩ := h
        refine z_cvi (As := [.int a2, .int a1]) C0 hml hl.1 hW hS (c_X11_goes l D A b a2 a1 u12 hq) mv_X11_321 rfl ⟨Nat.le_of_ble_eq_true rfl, Nat.le_of_ble_eq_true rfl⟩ rfl rfl (Nat.le_of_ble_eq_true rfl) dX11_ruin_43 (fun H locs hW hS => ?_)
        clear hq
        refine lv_istore_n (lv' := [(3, .int r13), (0, .ref (b + 0)), (1, .int a1), (2, .int a2)]) hx hb dX11_ruin_46 rfl hl (by decide) rfl (fun ls hl => ?_)
        refine lv_iconst (v := (0 : Int32)) hx hb dX11_ruin_47 (by decide) ?_
        refine lv_istore (lv' := [(4, .int (0 : Int32)), (3, .int r13), (0, .ref (b + 0)), (1, .int a1), (2, .int a2)]) hx hb dX11_ruin_48 hl (by decide) rfl (fun ls hl => ?_)
        refine lv_iconst (v := (0 : Int32)) hx hb dX11_ruin_50 (by decide) ?_
        refine lv_istore (lv' := [(5, .int (0 : Int32)), (4, .int (0 : Int32)), (3, .int r13), (0, .ref (b + 0)), (1, .int a1), (2, .int a2)]) hx hb dX11_ruin_51 hl (by decide) rfl (fun ls hl => ?_)
        exact l_X11_ruin_53 C0 hr hml hlk 5000 _ _ _ _ _ _ h hW hS (lv_sub hl [3, 1, 0] rfl)
      · replace h := z_f h hc
        clear hc
        refine lv_iconst (v := (0 : Int32)) hx hb dX11_ruin_34 (by decide) ?_
        cases h
        exact z_iret C0 hr hlk hW hS dX11_ruin_35
    · replace h := z_ff h hc
      clear hc
      refine lv_iconst (v := (1 : Int32)) hx hb dX11_ruin_19 (by decide) ?_
      refine lv_goto (tgt := 24) hx hb dX11_ruin_20 (by decide) ?_
      refine z_puti C0 hW hS fl_X11_42 rfl rfl rfl rfl dX11_ruin_24 (fun H locs u15 e1 hW hS => ?_)
      replace h := z_ly h e1
      clear e1
      refine lv_aload_n hx hb dX11_ruin_27 rfl (lv_at hl 0 rfl) ?_
      refine z_geti C0 hW fl_X11_42 rfl rfl dX11_ruin_28 ?_
      refine lv_if_le (tgt := 36) hx hb dX11_ruin_31 (by decide) (fun hc => ?_) (fun hc => ?_)
      · replace h := z_t h hc
        clear hc
        refine lv_aload_n hx hb dX11_ruin_36 rfl (lv_at hl 0 rfl) ?_
        replace h := z_bd h
        obtain ⟨u16, hq, h⟩ := h
        refine z_cvv (As := []) C0 hml hl.1 hW hS (c_X11_putsAside l D A b u15 hq) mv_X11_169 rfl ⟨Nat.le_of_ble_eq_true rfl, Nat.le_of_ble_eq_true rfl⟩ rfl rfl (Nat.le_of_ble_eq_true rfl) dX11_ruin_37 (fun H locs hW hS => ?_)
        clear hq
        refine lv_aload_n hx hb dX11_ruin_40 rfl (lv_at hl 0 rfl) ?_
        refine lv_iload_n hx hb dX11_ruin_41 rfl (lv_at hl 2 rfl) ?_
        refine lv_iload_n hx hb dX11_ruin_42 rfl (lv_at hl 1 rfl) ?_
        replace h := z_bd2 h
        obtain ⟨r17, u18, hq, h⟩ := h
        refine z_cvi (As := [.int a2, .int a1]) C0 hml hl.1 hW hS (c_X11_goes l D A b a2 a1 u16 hq) mv_X11_321 rfl ⟨Nat.le_of_ble_eq_true rfl, Nat.le_of_ble_eq_true rfl⟩ rfl rfl (Nat.le_of_ble_eq_true rfl) dX11_ruin_43 (fun H locs hW hS => ?_)
        clear hq
        refine lv_istore_n (lv' := [(3, .int r17), (0, .ref (b + 0)), (1, .int a1), (2, .int a2)]) hx hb dX11_ruin_46 rfl hl (by decide) rfl (fun ls hl => ?_)
        refine lv_iconst (v := (0 : Int32)) hx hb dX11_ruin_47 (by decide) ?_
        refine lv_istore (lv' := [(4, .int (0 : Int32)), (3, .int r17), (0, .ref (b + 0)), (1, .int a1), (2, .int a2)]) hx hb dX11_ruin_48 hl (by decide) rfl (fun ls hl => ?_)
        refine lv_iconst (v := (0 : Int32)) hx hb dX11_ruin_50 (by decide) ?_
        refine lv_istore (lv' := [(5, .int (0 : Int32)), (4, .int (0 : Int32)), (3, .int r17), (0, .ref (b + 0)), (1, .int a1), (2, .int a2)]) hx hb dX11_ruin_51 hl (by decide) rfl (fun ls hl => ?_)
        exact l_X11_ruin_53 C0 hr hml hlk 5000 _ _ _ _ _ _ h hW hS (lv_sub hl [3, 1, 0] rfl)
      · replace h := z_f h hc
        clear hc
        refine lv_iconst (v := (0 : Int32)) hx hb dX11_ruin_34 (by decide) ?_
        cases h
        exact z_iret C0 hr hlk hW hS dX11_ruin_35
def f_X11_ahead (a1 : Int32) (a2 : Int32) (a3 : Int32) (u : zU) : Option (Int32 × zU) :=
  z_let (f_X11_isDraw a1 u) (fun t1 => if t1 = true then (z_let (f_X11_isIn a2 (0 : Int32) (100 : Int32) u) (fun t12 => if t12 = true then (z_let (f_X11_isIn a3 (0 : Int32) (2 : Int32) u) (fun t13 => if t13 = true then (z_let (z_up u 0 0 (0 : Int32)) (fun u14 => if (u14 0 0) ≤ 0 then ((f_X11_putsAside u14).bind (fun u15 => z_b2 (f_X11_goes a2 a1 u15) (fun r16 u17 => if a3 = 0 then (z_let (u17 1 4) (fun z22 => (f_X11_comesBack u17).bind (fun u23 => some (z22, u23)))) else (if a3 = (1 : Int32) then ((f_X11_governorNow u17).bind (fun r20 => (f_X11_comesBack u17).bind (fun u21 => some (r20, u21)))) else (z_let (u17 1 6) (fun z18 => (f_X11_comesBack u17).bind (fun u19 => some (z18, u19)))))))) else (some ((0 : Int32), u14)))) else (z_let (z_up u 0 0 (2 : Int32)) (fun u24 => if (u24 0 0) ≤ 0 then ((f_X11_putsAside u24).bind (fun u25 => z_b2 (f_X11_goes a2 a1 u25) (fun r26 u27 => if a3 = 0 then (z_let (u27 1 4) (fun z32 => (f_X11_comesBack u27).bind (fun u33 => some (z32, u33)))) else (if a3 = (1 : Int32) then ((f_X11_governorNow u27).bind (fun r30 => (f_X11_comesBack u27).bind (fun u31 => some (r30, u31)))) else (z_let (u27 1 6) (fun z28 => (f_X11_comesBack u27).bind (fun u29 => some (z28, u29)))))))) else (some ((0 : Int32), u24)))))) else (z_let (z_up u 0 0 (1 : Int32)) (fun u34 => if (u34 0 0) ≤ 0 then ((f_X11_putsAside u34).bind (fun u35 => z_b2 (f_X11_goes a2 a1 u35) (fun r36 u37 => if a3 = 0 then (z_let (u37 1 4) (fun z42 => (f_X11_comesBack u37).bind (fun u43 => some (z42, u43)))) else (if a3 = (1 : Int32) then ((f_X11_governorNow u37).bind (fun r40 => (f_X11_comesBack u37).bind (fun u41 => some (r40, u41)))) else (z_let (u37 1 6) (fun z38 => (f_X11_comesBack u37).bind (fun u39 => some (z38, u39)))))))) else (some ((0 : Int32), u34)))))) else (z_let (z_up u 0 0 (1 : Int32)) (fun u2 => if (u2 0 0) ≤ 0 then ((f_X11_putsAside u2).bind (fun u3 => z_b2 (f_X11_goes a2 a1 u3) (fun r4 u5 => if a3 = 0 then (z_let (u5 1 4) (fun z10 => (f_X11_comesBack u5).bind (fun u11 => some (z10, u11)))) else (if a3 = (1 : Int32) then ((f_X11_governorNow u5).bind (fun r8 => (f_X11_comesBack u5).bind (fun u9 => some (r8, u9)))) else (z_let (u5 1 6) (fun z6 => (f_X11_comesBack u5).bind (fun u7 => some (z6, u7)))))))) else (some ((0 : Int32), u2)))))
theorem f_X11_ahead_e (a1 : Int32) (a2 : Int32) (a3 : Int32) (u : zU) : f_X11_ahead a1 a2 a3 u = z_let (f_X11_isDraw a1 u) (fun t1 => if t1 = true then (z_let (f_X11_isIn a2 (0 : Int32) (100 : Int32) u) (fun t12 => if t12 = true then (z_let (f_X11_isIn a3 (0 : Int32) (2 : Int32) u) (fun t13 => if t13 = true then (z_let (z_up u 0 0 (0 : Int32)) (fun u14 => if (u14 0 0) ≤ 0 then ((f_X11_putsAside u14).bind (fun u15 => z_b2 (f_X11_goes a2 a1 u15) (fun r16 u17 => if a3 = 0 then (z_let (u17 1 4) (fun z22 => (f_X11_comesBack u17).bind (fun u23 => some (z22, u23)))) else (if a3 = (1 : Int32) then ((f_X11_governorNow u17).bind (fun r20 => (f_X11_comesBack u17).bind (fun u21 => some (r20, u21)))) else (z_let (u17 1 6) (fun z18 => (f_X11_comesBack u17).bind (fun u19 => some (z18, u19)))))))) else (some ((0 : Int32), u14)))) else (z_let (z_up u 0 0 (2 : Int32)) (fun u24 => if (u24 0 0) ≤ 0 then ((f_X11_putsAside u24).bind (fun u25 => z_b2 (f_X11_goes a2 a1 u25) (fun r26 u27 => if a3 = 0 then (z_let (u27 1 4) (fun z32 => (f_X11_comesBack u27).bind (fun u33 => some (z32, u33)))) else (if a3 = (1 : Int32) then ((f_X11_governorNow u27).bind (fun r30 => (f_X11_comesBack u27).bind (fun u31 => some (r30, u31)))) else (z_let (u27 1 6) (fun z28 => (f_X11_comesBack u27).bind (fun u29 => some (z28, u29)))))))) else (some ((0 : Int32), u24)))))) else (z_let (z_up u 0 0 (1 : Int32)) (fun u34 => if (u34 0 0) ≤ 0 then ((f_X11_putsAside u34).bind (fun u35 => z_b2 (f_X11_goes a2 a1 u35) (fun r36 u37 => if a3 = 0 then (z_let (u37 1 4) (fun z42 => (f_X11_comesBack u37).bind (fun u43 => some (z42, u43)))) else (if a3 = (1 : Int32) then ((f_X11_governorNow u37).bind (fun r40 => (f_X11_comesBack u37).bind (fun u41 => some (r40, u41)))) else (z_let (u37 1 6) (fun z38 => (f_X11_comesBack u37).bind (fun u39 => some (z38, u39)))))))) else (some ((0 : Int32), u34)))))) else (z_let (z_up u 0 0 (1 : Int32)) (fun u2 => if (u2 0 0) ≤ 0 then ((f_X11_putsAside u2).bind (fun u3 => z_b2 (f_X11_goes a2 a1 u3) (fun r4 u5 => if a3 = 0 then (z_let (u5 1 4) (fun z10 => (f_X11_comesBack u5).bind (fun u11 => some (z10, u11)))) else (if a3 = (1 : Int32) then ((f_X11_governorNow u5).bind (fun r8 => (f_X11_comesBack u5).bind (fun u9 => some (r8, u9)))) else (z_let (u5 1 6) (fun z6 => (f_X11_comesBack u5).bind (fun u7 => some (z6, u7)))))))) else (some ((0 : Int32), u2))))) := rfl
set_option maxRecDepth 100000 in
set_option maxHeartbeats 4000000 in
theorem c_X11_ahead (l : Launch) (D : zD) (A : Nat → Prop) (b : Nat) (a1 : Int32) (a2 : Int32) (a3 : Int32) (u : zU) {v : Int32} {u' : zU} (h : f_X11_ahead a1 a2 a3 u = some (v, u')) : z_M l D A b gM yX11_ahead cX11_ahead 6 (some .int) 45 1427 [.ref (b + 0), .int a1, .int a2, .int a3] u (some (.int v)) u' := by
  refine z_enter (by decide) (Nat.le_of_ble_eq_true rfl) ?_
  intro p e s m below meth c ls C0 hr hml hlk hW hS hl
  have hl : lv_has ls 6 [(0, .ref (b + 0)), (1, .int a1), (2, .int a2), (3, .int a3)] := hl
  have hx := C0.1
  have hb := C0.2.1
  rw [f_X11_ahead_e] at h
  refine lv_aload_n hx hb dX11_ahead_0 rfl (lv_at hl 0 rfl) ?_
  refine lv_aload_n hx hb dX11_ahead_1 rfl (lv_at hl 0 rfl) ?_
  refine lv_iload_n hx hb dX11_ahead_2 rfl (lv_at hl 1 rfl) ?_
  obtain ⟨t1, hq⟩ : ∃ y, f_X11_isDraw a1 u = y := ⟨_, rfl⟩
  replace h := z_lz h hq
  refine z_cvi (As := [.int a1]) C0 hml hl.1 hW hS (c_X11_isDraw l D A b a1 u hq) mv_X11_347 rfl ⟨Nat.le_of_ble_eq_true rfl, Nat.le_of_ble_eq_true rfl⟩ rfl rfl (Nat.le_of_ble_eq_true rfl) dX11_ahead_3 (fun H locs hW hS => ?_)
  clear hq
  refine z_ifeqZ C0 (tgt := 19) dX11_ahead_6 (by decide) (fun hc => ?_) (fun hc => ?_)
  · replace h := z_ff h hc
    clear hc
    refine lv_iconst (v := (1 : Int32)) hx hb dX11_ahead_19 (by decide) ?_
    refine lv_goto (tgt := 37) hx hb dX11_ahead_20 (by decide) ?_
    refine z_puti C0 hW hS fl_X11_42 rfl rfl rfl rfl dX11_ahead_37 (fun H locs u2 e1 hW hS => ?_)
    replace h := z_ly h e1
    clear e1
    refine lv_aload_n hx hb dX11_ahead_40 rfl (lv_at hl 0 rfl) ?_
    refine z_geti C0 hW fl_X11_42 rfl rfl dX11_ahead_41 ?_
    refine lv_if_le (tgt := 49) hx hb dX11_ahead_44 (by decide) (fun hc => ?_) (fun hc => ?_)
    · replace h := z_t h hc
      clear hc
      refine lv_aload_n hx hb dX11_ahead_49 rfl (lv_at hl 0 rfl) ?_
      replace h := z_bd h
      obtain ⟨u3, hq, h⟩ := h
      refine z_cvv (As := []) C0 hml hl.1 hW hS (c_X11_putsAside l D A b u2 hq) mv_X11_169 rfl ⟨Nat.le_of_ble_eq_true rfl, Nat.le_of_ble_eq_true rfl⟩ rfl rfl (Nat.le_of_ble_eq_true rfl) dX11_ahead_50 (fun H locs hW hS => ?_)
      clear hq
      refine lv_aload_n hx hb dX11_ahead_53 rfl (lv_at hl 0 rfl) ?_
      refine lv_iload_n hx hb dX11_ahead_54 rfl (lv_at hl 2 rfl) ?_
      refine lv_iload_n hx hb dX11_ahead_55 rfl (lv_at hl 1 rfl) ?_
      replace h := z_bd2 h
      obtain ⟨r4, u5, hq, h⟩ := h
      refine z_cvi (As := [.int a2, .int a1]) C0 hml hl.1 hW hS (c_X11_goes l D A b a2 a1 u3 hq) mv_X11_321 rfl ⟨Nat.le_of_ble_eq_true rfl, Nat.le_of_ble_eq_true rfl⟩ rfl rfl (Nat.le_of_ble_eq_true rfl) dX11_ahead_56 (fun H locs hW hS => ?_)
      clear hq
      refine lv_istore (lv' := [(4, .int r4), (0, .ref (b + 0)), (1, .int a1), (2, .int a2), (3, .int a3)]) hx hb dX11_ahead_59 hl (by decide) rfl (fun ls hl => ?_)
      refine lv_iload_n hx hb dX11_ahead_61 rfl (lv_at hl 4 rfl) ?_
      refine lv_if_ne (tgt := 74) hx hb dX11_ahead_62 (by decide) (fun hc => ?_) (fun hc => ?_)
      · replace h := z_f h hc
        clear hc
        refine lv_iload_n hx hb dX11_ahead_74 rfl (lv_at hl 4 rfl) ?_
        refine lv_iconst (v := (1 : Int32)) hx hb dX11_ahead_75 (by decide) ?_
        refine lv_icmp_ne (tgt := 86) hx hb dX11_ahead_76 (by decide) (fun hc => ?_) (fun hc => ?_)
        · replace h := z_f h hc
          clear hc
          refine lv_aload_n hx hb dX11_ahead_86 rfl (lv_at hl 1 rfl) ?_
          refine z_getr (o := 1) C0 hW fl_X11_7 rfl rfl rfl dX11_ahead_87 ?_
          refine lv_bipush (v := (6 : Int32)) hx hb dX11_ahead_90 (by decide) ?_
          refine z_iald (k := 6) (n := 705) C0 hW rfl rfl (by decide) (by decide) dX11_ahead_92 ?_
          refine lv_topi (fun z6 e1 => ?_)
          replace h := z_ly h e1
          clear e1
          refine lv_istore (lv' := [(5, .int z6), (4, .int r4), (0, .ref (b + 0)), (1, .int a1), (2, .int a2), (3, .int a3)]) hx hb dX11_ahead_93 hl (by decide) rfl (fun ls hl => ?_)
          refine lv_aload_n hx hb dX11_ahead_95 rfl (lv_at hl 2 rfl) ?_
          replace h := z_bd h
          obtain ⟨u7, hq, h⟩ := h
          refine z_cvv (As := []) C0 hml hl.1 hW hS (c_X11_comesBack l D A b u5 hq) mv_X11_179 rfl ⟨Nat.le_of_ble_eq_true rfl, Nat.le_of_ble_eq_true rfl⟩ rfl rfl (Nat.le_of_ble_eq_true rfl) dX11_ahead_96 (fun H locs hW hS => ?_)
          clear hq
          refine lv_iload hx hb dX11_ahead_99 (lv_at hl 0 rfl) ?_
          cases h
          exact z_iret C0 hr hlk hW hS dX11_ahead_101
        · replace h := z_t h hc
          clear hc
          refine lv_aload_n hx hb dX11_ahead_79 rfl (lv_at hl 1 rfl) ?_
          replace h := z_bd h
          obtain ⟨r8, hq, h⟩ := h
          refine z_cvi (As := []) C0 hml hl.1 hW hS (c_X11_governorNow l D A b u5 hq) mv_X11_249 rfl ⟨Nat.le_of_ble_eq_true rfl, Nat.le_of_ble_eq_true rfl⟩ rfl rfl (Nat.le_of_ble_eq_true rfl) dX11_ahead_80 (fun H locs hW hS => ?_)
          clear hq
          refine lv_goto (tgt := 93) hx hb dX11_ahead_83 (by decide) ?_
          refine lv_istore (lv' := [(5, .int r8), (4, .int r4), (0, .ref (b + 0)), (1, .int a1), (2, .int a2), (3, .int a3)]) hx hb dX11_ahead_93 hl (by decide) rfl (fun ls hl => ?_)
          refine lv_aload_n hx hb dX11_ahead_95 rfl (lv_at hl 2 rfl) ?_
          replace h := z_bd h
          obtain ⟨u9, hq, h⟩ := h
          refine z_cvv (As := []) C0 hml hl.1 hW hS (c_X11_comesBack l D A b u5 hq) mv_X11_179 rfl ⟨Nat.le_of_ble_eq_true rfl, Nat.le_of_ble_eq_true rfl⟩ rfl rfl (Nat.le_of_ble_eq_true rfl) dX11_ahead_96 (fun H locs hW hS => ?_)
          clear hq
          refine lv_iload hx hb dX11_ahead_99 (lv_at hl 0 rfl) ?_
          cases h
          exact z_iret C0 hr hlk hW hS dX11_ahead_101
      · replace h := z_t h hc
        clear hc
        refine lv_aload_n hx hb dX11_ahead_65 rfl (lv_at hl 1 rfl) ?_
        refine z_getr (o := 1) C0 hW fl_X11_7 rfl rfl rfl dX11_ahead_66 ?_
        refine lv_iconst (v := (4 : Int32)) hx hb dX11_ahead_69 (by decide) ?_
        refine z_iald (k := 4) (n := 705) C0 hW rfl rfl (by decide) (by decide) dX11_ahead_70 ?_
        refine lv_goto (tgt := 93) hx hb dX11_ahead_71 (by decide) ?_
        refine lv_topi (fun z10 e1 => ?_)
        replace h := z_ly h e1
        clear e1
        refine lv_istore (lv' := [(5, .int z10), (4, .int r4), (0, .ref (b + 0)), (1, .int a1), (2, .int a2), (3, .int a3)]) hx hb dX11_ahead_93 hl (by decide) rfl (fun ls hl => ?_)
        refine lv_aload_n hx hb dX11_ahead_95 rfl (lv_at hl 2 rfl) ?_
        replace h := z_bd h
        obtain ⟨u11, hq, h⟩ := h
        refine z_cvv (As := []) C0 hml hl.1 hW hS (c_X11_comesBack l D A b u5 hq) mv_X11_179 rfl ⟨Nat.le_of_ble_eq_true rfl, Nat.le_of_ble_eq_true rfl⟩ rfl rfl (Nat.le_of_ble_eq_true rfl) dX11_ahead_96 (fun H locs hW hS => ?_)
        clear hq
        refine lv_iload hx hb dX11_ahead_99 (lv_at hl 0 rfl) ?_
        cases h
        exact z_iret C0 hr hlk hW hS dX11_ahead_101
    · replace h := z_f h hc
      clear hc
      refine lv_iconst (v := (0 : Int32)) hx hb dX11_ahead_47 (by decide) ?_
      cases h
      exact z_iret C0 hr hlk hW hS dX11_ahead_48
  · replace h := z_t h hc
    clear hc
    refine lv_iload_n hx hb dX11_ahead_9 rfl (lv_at hl 2 rfl) ?_
    refine lv_iconst (v := (0 : Int32)) hx hb dX11_ahead_10 (by decide) ?_
    refine lv_bipush (v := (100 : Int32)) hx hb dX11_ahead_11 (by decide) ?_
    obtain ⟨t12, hq⟩ : ∃ y, f_X11_isIn a2 (0 : Int32) (100 : Int32) u = y := ⟨_, rfl⟩
    replace h := z_lz h hq
    refine z_csi (As := [.int a2, .int (0 : Int32), .int (100 : Int32)]) C0 hml hl.1 hW hS (c_X11_isIn l D A b a2 (0 : Int32) (100 : Int32) u hq) ms_X11_45 ⟨Nat.le_of_ble_eq_true rfl, Nat.le_of_ble_eq_true rfl⟩ rfl rfl (Nat.le_of_ble_eq_true rfl) dX11_ahead_13 (fun H locs hW hS => ?_)
    clear hq
    refine z_ifneZ C0 (tgt := 23) dX11_ahead_16 (by decide) (fun hc => ?_) (fun hc => ?_)
    · replace h := z_t h hc
      clear hc
      refine lv_iload_n hx hb dX11_ahead_23 rfl (lv_at hl 3 rfl) ?_
      refine lv_iconst (v := (0 : Int32)) hx hb dX11_ahead_24 (by decide) ?_
      refine lv_iconst (v := (2 : Int32)) hx hb dX11_ahead_25 (by decide) ?_
      obtain ⟨t13, hq⟩ : ∃ y, f_X11_isIn a3 (0 : Int32) (2 : Int32) u = y := ⟨_, rfl⟩
      replace h := z_lz h hq
      refine z_csi (As := [.int a3, .int (0 : Int32), .int (2 : Int32)]) C0 hml hl.1 hW hS (c_X11_isIn l D A b a3 (0 : Int32) (2 : Int32) u hq) ms_X11_45 ⟨Nat.le_of_ble_eq_true rfl, Nat.le_of_ble_eq_true rfl⟩ rfl rfl (Nat.le_of_ble_eq_true rfl) dX11_ahead_26 (fun H locs hW hS => ?_)
      clear hq
      refine z_ifneZ C0 (tgt := 36) dX11_ahead_29 (by decide) (fun hc => ?_) (fun hc => ?_)
      · replace h := z_t h hc
        clear hc
        refine lv_iconst (v := (0 : Int32)) hx hb dX11_ahead_36 (by decide) ?_
        refine z_puti C0 hW hS fl_X11_42 rfl rfl rfl rfl dX11_ahead_37 (fun H locs u14 e1 hW hS => ?_)
        replace h := z_ly h e1
        clear e1
        refine lv_aload_n hx hb dX11_ahead_40 rfl (lv_at hl 0 rfl) ?_
        refine z_geti C0 hW fl_X11_42 rfl rfl dX11_ahead_41 ?_
        refine lv_if_le (tgt := 49) hx hb dX11_ahead_44 (by decide) (fun hc => ?_) (fun hc => ?_)
        · replace h := z_t h hc
          clear hc
          refine lv_aload_n hx hb dX11_ahead_49 rfl (lv_at hl 0 rfl) ?_
          replace h := z_bd h
          obtain ⟨u15, hq, h⟩ := h
          refine z_cvv (As := []) C0 hml hl.1 hW hS (c_X11_putsAside l D A b u14 hq) mv_X11_169 rfl ⟨Nat.le_of_ble_eq_true rfl, Nat.le_of_ble_eq_true rfl⟩ rfl rfl (Nat.le_of_ble_eq_true rfl) dX11_ahead_50 (fun H locs hW hS => ?_)
          clear hq
          refine lv_aload_n hx hb dX11_ahead_53 rfl (lv_at hl 0 rfl) ?_
          refine lv_iload_n hx hb dX11_ahead_54 rfl (lv_at hl 2 rfl) ?_
          refine lv_iload_n hx hb dX11_ahead_55 rfl (lv_at hl 1 rfl) ?_
          replace h := z_bd2 h
          obtain ⟨r16, u17, hq, h⟩ := h
          refine z_cvi (As := [.int a2, .int a1]) C0 hml hl.1 hW hS (c_X11_goes l D A b a2 a1 u15 hq) mv_X11_321 rfl ⟨Nat.le_of_ble_eq_true rfl, Nat.le_of_ble_eq_true rfl⟩ rfl rfl (Nat.le_of_ble_eq_true rfl) dX11_ahead_56 (fun H locs hW hS => ?_)
          clear hq
          refine lv_istore (lv' := [(4, .int r16), (0, .ref (b + 0)), (1, .int a1), (2, .int a2), (3, .int a3)]) hx hb dX11_ahead_59 hl (by decide) rfl (fun ls hl => ?_)
          refine lv_iload_n hx hb dX11_ahead_61 rfl (lv_at hl 4 rfl) ?_
          refine lv_if_ne (tgt := 74) hx hb dX11_ahead_62 (by decide) (fun hc => ?_) (fun hc => ?_)
          · replace h := z_f h hc
            clear hc
            refine lv_iload_n hx hb dX11_ahead_74 rfl (lv_at hl 4 rfl) ?_
            refine lv_iconst (v := (1 : Int32)) hx hb dX11_ahead_75 (by decide) ?_
            refine lv_icmp_ne (tgt := 86) hx hb dX11_ahead_76 (by decide) (fun hc => ?_) (fun hc => ?_)
            · replace h := z_f h hc
              clear hc
              refine lv_aload_n hx hb dX11_ahead_86 rfl (lv_at hl 1 rfl) ?_
              refine z_getr (o := 1) C0 hW fl_X11_7 rfl rfl rfl dX11_ahead_87 ?_
              refine lv_bipush (v := (6 : Int32)) hx hb dX11_ahead_90 (by decide) ?_
              refine z_iald (k := 6) (n := 705) C0 hW rfl rfl (by decide) (by decide) dX11_ahead_92 ?_
              refine lv_topi (fun z18 e1 => ?_)
              replace h := z_ly h e1
              clear e1
              refine lv_istore (lv' := [(5, .int z18), (4, .int r16), (0, .ref (b + 0)), (1, .int a1), (2, .int a2), (3, .int a3)]) hx hb dX11_ahead_93 hl (by decide) rfl (fun ls hl => ?_)
              refine lv_aload_n hx hb dX11_ahead_95 rfl (lv_at hl 2 rfl) ?_
              replace h := z_bd h
              obtain ⟨u19, hq, h⟩ := h
              refine z_cvv (As := []) C0 hml hl.1 hW hS (c_X11_comesBack l D A b u17 hq) mv_X11_179 rfl ⟨Nat.le_of_ble_eq_true rfl, Nat.le_of_ble_eq_true rfl⟩ rfl rfl (Nat.le_of_ble_eq_true rfl) dX11_ahead_96 (fun H locs hW hS => ?_)
              clear hq
              refine lv_iload hx hb dX11_ahead_99 (lv_at hl 0 rfl) ?_
              cases h
              exact z_iret C0 hr hlk hW hS dX11_ahead_101
            · replace h := z_t h hc
              clear hc
              refine lv_aload_n hx hb dX11_ahead_79 rfl (lv_at hl 1 rfl) ?_
              replace h := z_bd h
              obtain ⟨r20, hq, h⟩ := h
              refine z_cvi (As := []) C0 hml hl.1 hW hS (c_X11_governorNow l D A b u17 hq) mv_X11_249 rfl ⟨Nat.le_of_ble_eq_true rfl, Nat.le_of_ble_eq_true rfl⟩ rfl rfl (Nat.le_of_ble_eq_true rfl) dX11_ahead_80 (fun H locs hW hS => ?_)
              clear hq
              refine lv_goto (tgt := 93) hx hb dX11_ahead_83 (by decide) ?_
              refine lv_istore (lv' := [(5, .int r20), (4, .int r16), (0, .ref (b + 0)), (1, .int a1), (2, .int a2), (3, .int a3)]) hx hb dX11_ahead_93 hl (by decide) rfl (fun ls hl => ?_)
              refine lv_aload_n hx hb dX11_ahead_95 rfl (lv_at hl 2 rfl) ?_
              replace h := z_bd h
              obtain ⟨u21, hq, h⟩ := h
              refine z_cvv (As := []) C0 hml hl.1 hW hS (c_X11_comesBack l D A b u17 hq) mv_X11_179 rfl ⟨Nat.le_of_ble_eq_true rfl, Nat.le_of_ble_eq_true rfl⟩ rfl rfl (Nat.le_of_ble_eq_true rfl) dX11_ahead_96 (fun H locs hW hS => ?_)
              clear hq
              refine lv_iload hx hb dX11_ahead_99 (lv_at hl 0 rfl) ?_
              cases h
              exact z_iret C0 hr hlk hW hS dX11_ahead_101
          · replace h := z_t h hc
            clear hc
            refine lv_aload_n hx hb dX11_ahead_65 rfl (lv_at hl 1 rfl) ?_
            refine z_getr (o := 1) C0 hW fl_X11_7 rfl rfl rfl dX11_ahead_66 ?_
            refine lv_iconst (v := (4 : Int32)) hx hb dX11_ahead_69 (by decide) ?_
            refine z_iald (k := 4) (n := 705) C0 hW rfl rfl (by decide) (by decide) dX11_ahead_70 ?_
            refine lv_goto (tgt := 93) hx hb dX11_ahead_71 (by decide) ?_
            refine lv_topi (fun z22 e1 => ?_)
            replace h := z_ly h e1
            clear e1
            refine lv_istore (lv' := [(5, .int z22), (4, .int r16), (0, .ref (b + 0)), (1, .int a1), (2, .int a2), (3, .int a3)]) hx hb dX11_ahead_93 hl (by decide) rfl (fun ls hl => ?_)
            refine lv_aload_n hx hb dX11_ahead_95 rfl (lv_at hl 2 rfl) ?_
            replace h := z_bd h
            obtain ⟨u23, hq, h⟩ := h
            refine z_cvv (As := []) C0 hml hl.1 hW hS (c_X11_comesBack l D A b u17 hq) mv_X11_179 rfl ⟨Nat.le_of_ble_eq_true rfl, Nat.le_of_ble_eq_true rfl⟩ rfl rfl (Nat.le_of_ble_eq_true rfl) dX11_ahead_96 (fun H locs hW hS => ?_)
            clear hq
            refine lv_iload hx hb dX11_ahead_99 (lv_at hl 0 rfl) ?_
            cases h
            exact z_iret C0 hr hlk hW hS dX11_ahead_101
        · replace h := z_f h hc
          clear hc
          refine lv_iconst (v := (0 : Int32)) hx hb dX11_ahead_47 (by decide) ?_
          cases h
          exact z_iret C0 hr hlk hW hS dX11_ahead_48
      · replace h := z_ff h hc
        clear hc
        refine lv_iconst (v := (2 : Int32)) hx hb dX11_ahead_32 (by decide) ?_
        refine lv_goto (tgt := 37) hx hb dX11_ahead_33 (by decide) ?_
        refine z_puti C0 hW hS fl_X11_42 rfl rfl rfl rfl dX11_ahead_37 (fun H locs u24 e1 hW hS => ?_)
        replace h := z_ly h e1
        clear e1
        refine lv_aload_n hx hb dX11_ahead_40 rfl (lv_at hl 0 rfl) ?_
        refine z_geti C0 hW fl_X11_42 rfl rfl dX11_ahead_41 ?_
        refine lv_if_le (tgt := 49) hx hb dX11_ahead_44 (by decide) (fun hc => ?_) (fun hc => ?_)
        · replace h := z_t h hc
          clear hc
          refine lv_aload_n hx hb dX11_ahead_49 rfl (lv_at hl 0 rfl) ?_
          replace h := z_bd h
          obtain ⟨u25, hq, h⟩ := h
          refine z_cvv (As := []) C0 hml hl.1 hW hS (c_X11_putsAside l D A b u24 hq) mv_X11_169 rfl ⟨Nat.le_of_ble_eq_true rfl, Nat.le_of_ble_eq_true rfl⟩ rfl rfl (Nat.le_of_ble_eq_true rfl) dX11_ahead_50 (fun H locs hW hS => ?_)
          clear hq
          refine lv_aload_n hx hb dX11_ahead_53 rfl (lv_at hl 0 rfl) ?_
          refine lv_iload_n hx hb dX11_ahead_54 rfl (lv_at hl 2 rfl) ?_
          refine lv_iload_n hx hb dX11_ahead_55 rfl (lv_at hl 1 rfl) ?_
          replace h := z_bd2 h
          obtain ⟨r26, u27, hq, h⟩ := h
          refine z_cvi (As := [.int a2, .int a1]) C0 hml hl.1 hW hS (c_X11_goes l D A b a2 a1 u25 hq) mv_X11_321 rfl ⟨Nat.le_of_ble_eq_true rfl, Nat.le_of_ble_eq_true rfl⟩ rfl rfl (Nat.le_of_ble_eq_true rfl) dX11_ahead_56 (fun H locs hW hS => ?_)
          clear hq
          refine lv_istore (lv' := [(4, .int r26), (0, .ref (b + 0)), (1, .int a1), (2, .int a2), (3, .int a3)]) hx hb dX11_ahead_59 hl (by decide) rfl (fun ls hl => ?_)
          refine lv_iload_n hx hb dX11_ahead_61 rfl (lv_at hl 4 rfl) ?_
          refine lv_if_ne (tgt := 74) hx hb dX11_ahead_62 (by decide) (fun hc => ?_) (fun hc => ?_)
          · replace h := z_f h hc
            clear hc
            refine lv_iload_n hx hb dX11_ahead_74 rfl (lv_at hl 4 rfl) ?_
            refine lv_iconst (v := (1 : Int32)) hx hb dX11_ahead_75 (by decide) ?_
            refine lv_icmp_ne (tgt := 86) hx hb dX11_ahead_76 (by decide) (fun hc => ?_) (fun hc => ?_)
            · replace h := z_f h hc
              clear hc
              refine lv_aload_n hx hb dX11_ahead_86 rfl (lv_at hl 1 rfl) ?_
              refine z_getr (o := 1) C0 hW fl_X11_7 rfl rfl rfl dX11_ahead_87 ?_
              refine lv_bipush (v := (6 : Int32)) hx hb dX11_ahead_90 (by decide) ?_
              refine z_iald (k := 6) (n := 705) C0 hW rfl rfl (by decide) (by decide) dX11_ahead_92 ?_
              refine lv_topi (fun z28 e1 => ?_)
              replace h := z_ly h e1
              clear e1
              refine lv_istore (lv' := [(5, .int z28), (4, .int r26), (0, .ref (b + 0)), (1, .int a1), (2, .int a2), (3, .int a3)]) hx hb dX11_ahead_93 hl (by decide) rfl (fun ls hl => ?_)
              refine lv_aload_n hx hb dX11_ahead_95 rfl (lv_at hl 2 rfl) ?_
              replace h := z_bd h
              obtain ⟨u29, hq, h⟩ := h
              refine z_cvv (As := []) C0 hml hl.1 hW hS (c_X11_comesBack l D A b u27 hq) mv_X11_179 rfl ⟨Nat.le_of_ble_eq_true rfl, Nat.le_of_ble_eq_true rfl⟩ rfl rfl (Nat.le_of_ble_eq_true rfl) dX11_ahead_96 (fun H locs hW hS => ?_)
              clear hq
              refine lv_iload hx hb dX11_ahead_99 (lv_at hl 0 rfl) ?_
              cases h
              exact z_iret C0 hr hlk hW hS dX11_ahead_101
            · replace h := z_t h hc
              clear hc
              refine lv_aload_n hx hb dX11_ahead_79 rfl (lv_at hl 1 rfl) ?_
              replace h := z_bd h
              obtain ⟨r30, hq, h⟩ := h
              refine z_cvi (As := []) C0 hml hl.1 hW hS (c_X11_governorNow l D A b u27 hq) mv_X11_249 rfl ⟨Nat.le_of_ble_eq_true rfl, Nat.le_of_ble_eq_true rfl⟩ rfl rfl (Nat.le_of_ble_eq_true rfl) dX11_ahead_80 (fun H locs hW hS => ?_)
              clear hq
              refine lv_goto (tgt := 93) hx hb dX11_ahead_83 (by decide) ?_
              refine lv_istore (lv' := [(5, .int r30), (4, .int r26), (0, .ref (b + 0)), (1, .int a1), (2, .int a2), (3, .int a3)]) hx hb dX11_ahead_93 hl (by decide) rfl (fun ls hl => ?_)
              refine lv_aload_n hx hb dX11_ahead_95 rfl (lv_at hl 2 rfl) ?_
              replace h := z_bd h
              obtain ⟨u31, hq, h⟩ := h
              refine z_cvv (As := []) C0 hml hl.1 hW hS (c_X11_comesBack l D A b u27 hq) mv_X11_179 rfl ⟨Nat.le_of_ble_eq_true rfl, Nat.le_of_ble_eq_true rfl⟩ rfl rfl (Nat.le_of_ble_eq_true rfl) dX11_ahead_96 (fun H locs hW hS => ?_)
              clear hq
              refine lv_iload hx hb dX11_ahead_99 (lv_at hl 0 rfl) ?_
              cases h
              exact z_iret C0 hr hlk hW hS dX11_ahead_101
          · replace h := z_t h hc
            clear hc
            refine lv_aload_n hx hb dX11_ahead_65 rfl (lv_at hl 1 rfl) ?_
            refine z_getr (o := 1) C0 hW fl_X11_7 rfl rfl rfl dX11_ahead_66 ?_
            refine lv_iconst (v := (4 : Int32)) hx hb dX11_ahead_69 (by decide) ?_
            refine z_iald (k := 4) (n := 705) C0 hW rfl rfl (by decide) (by decide) dX11_ahead_70 ?_
            refine lv_goto (tgt := 93) hx hb dX11_ahead_71 (by decide) ?_
            refine lv_topi (fun z32 e1 => ?_)
            replace h := z_ly h e1
            clear e1
            refine lv_istore (lv' := [(5, .int z32), (4, .int r26), (0, .ref (b + 0)), (1, .int a1), (2, .int a2), (3, .int a3)]) hx hb dX11_ahead_93 hl (by decide) rfl (fun ls hl => ?_)
            refine lv_aload_n hx hb dX11_ahead_95 rfl (lv_at hl 2 rfl) ?_
            replace h := z_bd h
            obtain ⟨u33, hq, h⟩ := h
            refine z_cvv (As := []) C0 hml hl.1 hW hS (c_X11_comesBack l D A b u27 hq) mv_X11_179 rfl ⟨Nat.le_of_ble_eq_true rfl, Nat.le_of_ble_eq_true rfl⟩ rfl rfl (Nat.le_of_ble_eq_true rfl) dX11_ahead_96 (fun H locs hW hS => ?_)
            clear hq
            refine lv_iload hx hb dX11_ahead_99 (lv_at hl 0 rfl) ?_
            cases h
            exact z_iret C0 hr hlk hW hS dX11_ahead_101
        · replace h := z_f h hc
          clear hc
          refine lv_iconst (v := (0 : Int32)) hx hb dX11_ahead_47 (by decide) ?_
          cases h
          exact z_iret C0 hr hlk hW hS dX11_ahead_48
    · replace h := z_ff h hc
      clear hc
      refine lv_iconst (v := (1 : Int32)) hx hb dX11_ahead_19 (by decide) ?_
      refine lv_goto (tgt := 37) hx hb dX11_ahead_20 (by decide) ?_
      refine z_puti C0 hW hS fl_X11_42 rfl rfl rfl rfl dX11_ahead_37 (fun H locs u34 e1 hW hS => ?_)
      replace h := z_ly h e1
      clear e1
      refine lv_aload_n hx hb dX11_ahead_40 rfl (lv_at hl 0 rfl) ?_
      refine z_geti C0 hW fl_X11_42 rfl rfl dX11_ahead_41 ?_
      refine lv_if_le (tgt := 49) hx hb dX11_ahead_44 (by decide) (fun hc => ?_) (fun hc => ?_)
      · replace h := z_t h hc
        clear hc
        refine lv_aload_n hx hb dX11_ahead_49 rfl (lv_at hl 0 rfl) ?_
        replace h := z_bd h
        obtain ⟨u35, hq, h⟩ := h
        refine z_cvv (As := []) C0 hml hl.1 hW hS (c_X11_putsAside l D A b u34 hq) mv_X11_169 rfl ⟨Nat.le_of_ble_eq_true rfl, Nat.le_of_ble_eq_true rfl⟩ rfl rfl (Nat.le_of_ble_eq_true rfl) dX11_ahead_50 (fun H locs hW hS => ?_)
        clear hq
        refine lv_aload_n hx hb dX11_ahead_53 rfl (lv_at hl 0 rfl) ?_
        refine lv_iload_n hx hb dX11_ahead_54 rfl (lv_at hl 2 rfl) ?_
        refine lv_iload_n hx hb dX11_ahead_55 rfl (lv_at hl 1 rfl) ?_
        replace h := z_bd2 h
        obtain ⟨r36, u37, hq, h⟩ := h
        refine z_cvi (As := [.int a2, .int a1]) C0 hml hl.1 hW hS (c_X11_goes l D A b a2 a1 u35 hq) mv_X11_321 rfl ⟨Nat.le_of_ble_eq_true rfl, Nat.le_of_ble_eq_true rfl⟩ rfl rfl (Nat.le_of_ble_eq_true rfl) dX11_ahead_56 (fun H locs hW hS => ?_)
        clear hq
        refine lv_istore (lv' := [(4, .int r36), (0, .ref (b + 0)), (1, .int a1), (2, .int a2), (3, .int a3)]) hx hb dX11_ahead_59 hl (by decide) rfl (fun ls hl => ?_)
        refine lv_iload_n hx hb dX11_ahead_61 rfl (lv_at hl 4 rfl) ?_
        refine lv_if_ne (tgt := 74) hx hb dX11_ahead_62 (by decide) (fun hc => ?_) (fun hc => ?_)
        · replace h := z_f h hc
          clear hc
          refine lv_iload_n hx hb dX11_ahead_74 rfl (lv_at hl 4 rfl) ?_
          refine lv_iconst (v := (1 : Int32)) hx hb dX11_ahead_75 (by decide) ?_
          refine lv_icmp_ne (tgt := 86) hx hb dX11_ahead_76 (by decide) (fun hc => ?_) (fun hc => ?_)
          · replace h := z_f h hc
            clear hc
            refine lv_aload_n hx hb dX11_ahead_86 rfl (lv_at hl 1 rfl) ?_
            refine z_getr (o := 1) C0 hW fl_X11_7 rfl rfl rfl dX11_ahead_87 ?_
            refine lv_bipush (v := (6 : Int32)) hx hb dX11_ahead_90 (by decide) ?_
            refine z_iald (k := 6) (n := 705) C0 hW rfl rfl (by decide) (by decide) dX11_ahead_92 ?_
            refine lv_topi (fun z38 e1 => ?_)
            replace h := z_ly h e1
            clear e1
            refine lv_istore (lv' := [(5, .int z38), (4, .int r36), (0, .ref (b + 0)), (1, .int a1), (2, .int a2), (3, .int a3)]) hx hb dX11_ahead_93 hl (by decide) rfl (fun ls hl => ?_)
            refine lv_aload_n hx hb dX11_ahead_95 rfl (lv_at hl 2 rfl) ?_
            replace h := z_bd h
            obtain ⟨u39, hq, h⟩ := h
            refine z_cvv (As := []) C0 hml hl.1 hW hS (c_X11_comesBack l D A b u37 hq) mv_X11_179 rfl ⟨Nat.le_of_ble_eq_true rfl, Nat.le_of_ble_eq_true rfl⟩ rfl rfl (Nat.le_of_ble_eq_true rfl) dX11_ahead_96 (fun H locs hW hS => ?_)
            clear hq
            refine lv_iload hx hb dX11_ahead_99 (lv_at hl 0 rfl) ?_
            cases h
            exact z_iret C0 hr hlk hW hS dX11_ahead_101
          · replace h := z_t h hc
            clear hc
            refine lv_aload_n hx hb dX11_ahead_79 rfl (lv_at hl 1 rfl) ?_
            replace h := z_bd h
            obtain ⟨r40, hq, h⟩ := h
            refine z_cvi (As := []) C0 hml hl.1 hW hS (c_X11_governorNow l D A b u37 hq) mv_X11_249 rfl ⟨Nat.le_of_ble_eq_true rfl, Nat.le_of_ble_eq_true rfl⟩ rfl rfl (Nat.le_of_ble_eq_true rfl) dX11_ahead_80 (fun H locs hW hS => ?_)
            clear hq
            refine lv_goto (tgt := 93) hx hb dX11_ahead_83 (by decide) ?_
            refine lv_istore (lv' := [(5, .int r40), (4, .int r36), (0, .ref (b + 0)), (1, .int a1), (2, .int a2), (3, .int a3)]) hx hb dX11_ahead_93 hl (by decide) rfl (fun ls hl => ?_)
            refine lv_aload_n hx hb dX11_ahead_95 rfl (lv_at hl 2 rfl) ?_
            replace h := z_bd h
            obtain ⟨u41, hq, h⟩ := h
            refine z_cvv (As := []) C0 hml hl.1 hW hS (c_X11_comesBack l D A b u37 hq) mv_X11_179 rfl ⟨Nat.le_of_ble_eq_true rfl, Nat.le_of_ble_eq_true rfl⟩ rfl rfl (Nat.le_of_ble_eq_true rfl) dX11_ahead_96 (fun H locs hW hS => ?_)
            clear hq
            refine lv_iload hx hb dX11_ahead_99 (lv_at hl 0 rfl) ?_
            cases h
            exact z_iret C0 hr hlk hW hS dX11_ahead_101
        · replace h := z_t h hc
          clear hc
          refine lv_aload_n hx hb dX11_ahead_65 rfl (lv_at hl 1 rfl) ?_
          refine z_getr (o := 1) C0 hW fl_X11_7 rfl rfl rfl dX11_ahead_66 ?_
          refine lv_iconst (v := (4 : Int32)) hx hb dX11_ahead_69 (by decide) ?_
          refine z_iald (k := 4) (n := 705) C0 hW rfl rfl (by decide) (by decide) dX11_ahead_70 ?_
          refine lv_goto (tgt := 93) hx hb dX11_ahead_71 (by decide) ?_
          refine lv_topi (fun z42 e1 => ?_)
          replace h := z_ly h e1
          clear e1
          refine lv_istore (lv' := [(5, .int z42), (4, .int r36), (0, .ref (b + 0)), (1, .int a1), (2, .int a2), (3, .int a3)]) hx hb dX11_ahead_93 hl (by decide) rfl (fun ls hl => ?_)
          refine lv_aload_n hx hb dX11_ahead_95 rfl (lv_at hl 2 rfl) ?_
          replace h := z_bd h
          obtain ⟨u43, hq, h⟩ := h
          refine z_cvv (As := []) C0 hml hl.1 hW hS (c_X11_comesBack l D A b u37 hq) mv_X11_179 rfl ⟨Nat.le_of_ble_eq_true rfl, Nat.le_of_ble_eq_true rfl⟩ rfl rfl (Nat.le_of_ble_eq_true rfl) dX11_ahead_96 (fun H locs hW hS => ?_)
          clear hq
          refine lv_iload hx hb dX11_ahead_99 (lv_at hl 0 rfl) ?_
          cases h
          exact z_iret C0 hr hlk hW hS dX11_ahead_101
      · replace h := z_f h hc
        clear hc
        refine lv_iconst (v := (0 : Int32)) hx hb dX11_ahead_47 (by decide) ?_
        cases h
        exact z_iret C0 hr hlk hW hS dX11_ahead_48
def f_X11_trial (a1 : Int32) (a2 : Bool) (u : zU) : Option (Int32 × zU) :=
  z_let (f_X11_isIn a1 (0 : Int32) (60 : Int32) u) (fun t1 => if t1 = true then (z_let (z_up u 0 0 (0 : Int32)) (fun u2 => if (u2 0 0) ≤ 0 then ((f_X11_putsAside u2).bind (fun u3 => z_b2 (f_X11_goes a1 (-1 : Int32) u3) (fun r4 u5 => if a2 = true then (z_let (u5 1 10) (fun z8 => (f_X11_comesBack u5).bind (fun u9 => some (z8, u9)))) else (z_let (u5 1 6) (fun z6 => (f_X11_comesBack u5).bind (fun u7 => some (z6, u7))))))) else (some ((0 : Int32), u2)))) else (z_let (z_up u 0 0 (1 : Int32)) (fun u10 => if (u10 0 0) ≤ 0 then ((f_X11_putsAside u10).bind (fun u11 => z_b2 (f_X11_goes a1 (-1 : Int32) u11) (fun r12 u13 => if a2 = true then (z_let (u13 1 10) (fun z16 => (f_X11_comesBack u13).bind (fun u17 => some (z16, u17)))) else (z_let (u13 1 6) (fun z14 => (f_X11_comesBack u13).bind (fun u15 => some (z14, u15))))))) else (some ((0 : Int32), u10)))))
theorem f_X11_trial_e (a1 : Int32) (a2 : Bool) (u : zU) : f_X11_trial a1 a2 u = z_let (f_X11_isIn a1 (0 : Int32) (60 : Int32) u) (fun t1 => if t1 = true then (z_let (z_up u 0 0 (0 : Int32)) (fun u2 => if (u2 0 0) ≤ 0 then ((f_X11_putsAside u2).bind (fun u3 => z_b2 (f_X11_goes a1 (-1 : Int32) u3) (fun r4 u5 => if a2 = true then (z_let (u5 1 10) (fun z8 => (f_X11_comesBack u5).bind (fun u9 => some (z8, u9)))) else (z_let (u5 1 6) (fun z6 => (f_X11_comesBack u5).bind (fun u7 => some (z6, u7))))))) else (some ((0 : Int32), u2)))) else (z_let (z_up u 0 0 (1 : Int32)) (fun u10 => if (u10 0 0) ≤ 0 then ((f_X11_putsAside u10).bind (fun u11 => z_b2 (f_X11_goes a1 (-1 : Int32) u11) (fun r12 u13 => if a2 = true then (z_let (u13 1 10) (fun z16 => (f_X11_comesBack u13).bind (fun u17 => some (z16, u17)))) else (z_let (u13 1 6) (fun z14 => (f_X11_comesBack u13).bind (fun u15 => some (z14, u15))))))) else (some ((0 : Int32), u10))))) := rfl
set_option maxRecDepth 100000 in
set_option maxHeartbeats 4000000 in
theorem c_X11_trial (l : Launch) (D : zD) (A : Nat → Prop) (b : Nat) (a1 : Int32) (a2 : Bool) (u : zU) {v : Int32} {u' : zU} (h : f_X11_trial a1 a2 u = some (v, u')) : z_M l D A b gM yX11_trial cX11_trial 5 (some .int) 45 1427 [.ref (b + 0), .int a1, .int (bI a2)] u (some (.int v)) u' := by
  refine z_enter (by decide) (Nat.le_of_ble_eq_true rfl) ?_
  intro p e s m below meth c ls C0 hr hml hlk hW hS hl
  have hl : lv_has ls 5 [(0, .ref (b + 0)), (1, .int a1), (2, .int (bI a2))] := hl
  have hx := C0.1
  have hb := C0.2.1
  rw [f_X11_trial_e] at h
  refine lv_aload_n hx hb dX11_trial_0 rfl (lv_at hl 0 rfl) ?_
  refine lv_iload_n hx hb dX11_trial_1 rfl (lv_at hl 1 rfl) ?_
  refine lv_iconst (v := (0 : Int32)) hx hb dX11_trial_2 (by decide) ?_
  refine lv_bipush (v := (60 : Int32)) hx hb dX11_trial_3 (by decide) ?_
  obtain ⟨t1, hq⟩ : ∃ y, f_X11_isIn a1 (0 : Int32) (60 : Int32) u = y := ⟨_, rfl⟩
  replace h := z_lz h hq
  refine z_csi (As := [.int a1, .int (0 : Int32), .int (60 : Int32)]) C0 hml hl.1 hW hS (c_X11_isIn l D A b a1 (0 : Int32) (60 : Int32) u hq) ms_X11_45 ⟨Nat.le_of_ble_eq_true rfl, Nat.le_of_ble_eq_true rfl⟩ rfl rfl (Nat.le_of_ble_eq_true rfl) dX11_trial_5 (fun H locs hW hS => ?_)
  clear hq
  refine z_ifneZ C0 (tgt := 15) dX11_trial_8 (by decide) (fun hc => ?_) (fun hc => ?_)
  · replace h := z_t h hc
    clear hc
    refine lv_iconst (v := (0 : Int32)) hx hb dX11_trial_15 (by decide) ?_
    refine z_puti C0 hW hS fl_X11_42 rfl rfl rfl rfl dX11_trial_16 (fun H locs u2 e1 hW hS => ?_)
    replace h := z_ly h e1
    clear e1
    refine lv_aload_n hx hb dX11_trial_19 rfl (lv_at hl 0 rfl) ?_
    refine z_geti C0 hW fl_X11_42 rfl rfl dX11_trial_20 ?_
    refine lv_if_le (tgt := 28) hx hb dX11_trial_23 (by decide) (fun hc => ?_) (fun hc => ?_)
    · replace h := z_t h hc
      clear hc
      refine lv_aload_n hx hb dX11_trial_28 rfl (lv_at hl 0 rfl) ?_
      replace h := z_bd h
      obtain ⟨u3, hq, h⟩ := h
      refine z_cvv (As := []) C0 hml hl.1 hW hS (c_X11_putsAside l D A b u2 hq) mv_X11_169 rfl ⟨Nat.le_of_ble_eq_true rfl, Nat.le_of_ble_eq_true rfl⟩ rfl rfl (Nat.le_of_ble_eq_true rfl) dX11_trial_29 (fun H locs hW hS => ?_)
      clear hq
      refine lv_aload_n hx hb dX11_trial_32 rfl (lv_at hl 0 rfl) ?_
      refine lv_iload_n hx hb dX11_trial_33 rfl (lv_at hl 1 rfl) ?_
      refine lv_iconst (v := (-1 : Int32)) hx hb dX11_trial_34 (by decide) ?_
      replace h := z_bd2 h
      obtain ⟨r4, u5, hq, h⟩ := h
      refine z_cvi (As := [.int a1, .int (-1 : Int32)]) C0 hml hl.1 hW hS (c_X11_goes l D A b a1 (-1 : Int32) u3 hq) mv_X11_321 rfl ⟨Nat.le_of_ble_eq_true rfl, Nat.le_of_ble_eq_true rfl⟩ rfl rfl (Nat.le_of_ble_eq_true rfl) dX11_trial_35 (fun H locs hW hS => ?_)
      clear hq
      refine lv_istore_n (lv' := [(3, .int r4), (0, .ref (b + 0)), (1, .int a1), (2, .int (bI a2))]) hx hb dX11_trial_38 rfl hl (by decide) rfl (fun ls hl => ?_)
      refine lv_iload_n hx hb dX11_trial_39 rfl (lv_at hl 3 rfl) ?_
      refine z_ifeqZ C0 (tgt := 53) dX11_trial_40 (by decide) (fun hc => ?_) (fun hc => ?_)
      · replace h := z_ff h hc
        clear hc
        refine lv_aload_n hx hb dX11_trial_53 rfl (lv_at hl 1 rfl) ?_
        refine z_getr (o := 1) C0 hW fl_X11_7 rfl rfl rfl dX11_trial_54 ?_
        refine lv_bipush (v := (6 : Int32)) hx hb dX11_trial_57 (by decide) ?_
        refine z_iald (k := 6) (n := 705) C0 hW rfl rfl (by decide) (by decide) dX11_trial_59 ?_
        refine lv_topi (fun z6 e1 => ?_)
        replace h := z_ly h e1
        clear e1
        refine lv_istore (lv' := [(4, .int z6), (3, .int r4), (0, .ref (b + 0)), (1, .int a1), (2, .int (bI a2))]) hx hb dX11_trial_60 hl (by decide) rfl (fun ls hl => ?_)
        refine lv_aload_n hx hb dX11_trial_62 rfl (lv_at hl 2 rfl) ?_
        replace h := z_bd h
        obtain ⟨u7, hq, h⟩ := h
        refine z_cvv (As := []) C0 hml hl.1 hW hS (c_X11_comesBack l D A b u5 hq) mv_X11_179 rfl ⟨Nat.le_of_ble_eq_true rfl, Nat.le_of_ble_eq_true rfl⟩ rfl rfl (Nat.le_of_ble_eq_true rfl) dX11_trial_63 (fun H locs hW hS => ?_)
        clear hq
        refine lv_iload hx hb dX11_trial_66 (lv_at hl 0 rfl) ?_
        cases h
        exact z_iret C0 hr hlk hW hS dX11_trial_68
      · replace h := z_t h hc
        clear hc
        refine lv_aload_n hx hb dX11_trial_43 rfl (lv_at hl 1 rfl) ?_
        refine z_getr (o := 1) C0 hW fl_X11_7 rfl rfl rfl dX11_trial_44 ?_
        refine lv_bipush (v := (10 : Int32)) hx hb dX11_trial_47 (by decide) ?_
        refine z_iald (k := 10) (n := 705) C0 hW rfl rfl (by decide) (by decide) dX11_trial_49 ?_
        refine lv_goto (tgt := 60) hx hb dX11_trial_50 (by decide) ?_
        refine lv_topi (fun z8 e1 => ?_)
        replace h := z_ly h e1
        clear e1
        refine lv_istore (lv' := [(4, .int z8), (3, .int r4), (0, .ref (b + 0)), (1, .int a1), (2, .int (bI a2))]) hx hb dX11_trial_60 hl (by decide) rfl (fun ls hl => ?_)
        refine lv_aload_n hx hb dX11_trial_62 rfl (lv_at hl 2 rfl) ?_
        replace h := z_bd h
        obtain ⟨u9, hq, h⟩ := h
        refine z_cvv (As := []) C0 hml hl.1 hW hS (c_X11_comesBack l D A b u5 hq) mv_X11_179 rfl ⟨Nat.le_of_ble_eq_true rfl, Nat.le_of_ble_eq_true rfl⟩ rfl rfl (Nat.le_of_ble_eq_true rfl) dX11_trial_63 (fun H locs hW hS => ?_)
        clear hq
        refine lv_iload hx hb dX11_trial_66 (lv_at hl 0 rfl) ?_
        cases h
        exact z_iret C0 hr hlk hW hS dX11_trial_68
    · replace h := z_f h hc
      clear hc
      refine lv_iconst (v := (0 : Int32)) hx hb dX11_trial_26 (by decide) ?_
      cases h
      exact z_iret C0 hr hlk hW hS dX11_trial_27
  · replace h := z_ff h hc
    clear hc
    refine lv_iconst (v := (1 : Int32)) hx hb dX11_trial_11 (by decide) ?_
    refine lv_goto (tgt := 16) hx hb dX11_trial_12 (by decide) ?_
    refine z_puti C0 hW hS fl_X11_42 rfl rfl rfl rfl dX11_trial_16 (fun H locs u10 e1 hW hS => ?_)
    replace h := z_ly h e1
    clear e1
    refine lv_aload_n hx hb dX11_trial_19 rfl (lv_at hl 0 rfl) ?_
    refine z_geti C0 hW fl_X11_42 rfl rfl dX11_trial_20 ?_
    refine lv_if_le (tgt := 28) hx hb dX11_trial_23 (by decide) (fun hc => ?_) (fun hc => ?_)
    · replace h := z_t h hc
      clear hc
      refine lv_aload_n hx hb dX11_trial_28 rfl (lv_at hl 0 rfl) ?_
      replace h := z_bd h
      obtain ⟨u11, hq, h⟩ := h
      refine z_cvv (As := []) C0 hml hl.1 hW hS (c_X11_putsAside l D A b u10 hq) mv_X11_169 rfl ⟨Nat.le_of_ble_eq_true rfl, Nat.le_of_ble_eq_true rfl⟩ rfl rfl (Nat.le_of_ble_eq_true rfl) dX11_trial_29 (fun H locs hW hS => ?_)
      clear hq
      refine lv_aload_n hx hb dX11_trial_32 rfl (lv_at hl 0 rfl) ?_
      refine lv_iload_n hx hb dX11_trial_33 rfl (lv_at hl 1 rfl) ?_
      refine lv_iconst (v := (-1 : Int32)) hx hb dX11_trial_34 (by decide) ?_
      replace h := z_bd2 h
      obtain ⟨r12, u13, hq, h⟩ := h
      refine z_cvi (As := [.int a1, .int (-1 : Int32)]) C0 hml hl.1 hW hS (c_X11_goes l D A b a1 (-1 : Int32) u11 hq) mv_X11_321 rfl ⟨Nat.le_of_ble_eq_true rfl, Nat.le_of_ble_eq_true rfl⟩ rfl rfl (Nat.le_of_ble_eq_true rfl) dX11_trial_35 (fun H locs hW hS => ?_)
      clear hq
      refine lv_istore_n (lv' := [(3, .int r12), (0, .ref (b + 0)), (1, .int a1), (2, .int (bI a2))]) hx hb dX11_trial_38 rfl hl (by decide) rfl (fun ls hl => ?_)
      refine lv_iload_n hx hb dX11_trial_39 rfl (lv_at hl 3 rfl) ?_
      refine z_ifeqZ C0 (tgt := 53) dX11_trial_40 (by decide) (fun hc => ?_) (fun hc => ?_)
      · replace h := z_ff h hc
        clear hc
        refine lv_aload_n hx hb dX11_trial_53 rfl (lv_at hl 1 rfl) ?_
        refine z_getr (o := 1) C0 hW fl_X11_7 rfl rfl rfl dX11_trial_54 ?_
        refine lv_bipush (v := (6 : Int32)) hx hb dX11_trial_57 (by decide) ?_
        refine z_iald (k := 6) (n := 705) C0 hW rfl rfl (by decide) (by decide) dX11_trial_59 ?_
        refine lv_topi (fun z14 e1 => ?_)
        replace h := z_ly h e1
        clear e1
        refine lv_istore (lv' := [(4, .int z14), (3, .int r12), (0, .ref (b + 0)), (1, .int a1), (2, .int (bI a2))]) hx hb dX11_trial_60 hl (by decide) rfl (fun ls hl => ?_)
        refine lv_aload_n hx hb dX11_trial_62 rfl (lv_at hl 2 rfl) ?_
        replace h := z_bd h
        obtain ⟨u15, hq, h⟩ := h
        refine z_cvv (As := []) C0 hml hl.1 hW hS (c_X11_comesBack l D A b u13 hq) mv_X11_179 rfl ⟨Nat.le_of_ble_eq_true rfl, Nat.le_of_ble_eq_true rfl⟩ rfl rfl (Nat.le_of_ble_eq_true rfl) dX11_trial_63 (fun H locs hW hS => ?_)
        clear hq
        refine lv_iload hx hb dX11_trial_66 (lv_at hl 0 rfl) ?_
        cases h
        exact z_iret C0 hr hlk hW hS dX11_trial_68
      · replace h := z_t h hc
        clear hc
        refine lv_aload_n hx hb dX11_trial_43 rfl (lv_at hl 1 rfl) ?_
        refine z_getr (o := 1) C0 hW fl_X11_7 rfl rfl rfl dX11_trial_44 ?_
        refine lv_bipush (v := (10 : Int32)) hx hb dX11_trial_47 (by decide) ?_
        refine z_iald (k := 10) (n := 705) C0 hW rfl rfl (by decide) (by decide) dX11_trial_49 ?_
        refine lv_goto (tgt := 60) hx hb dX11_trial_50 (by decide) ?_
        refine lv_topi (fun z16 e1 => ?_)
        replace h := z_ly h e1
        clear e1
        refine lv_istore (lv' := [(4, .int z16), (3, .int r12), (0, .ref (b + 0)), (1, .int a1), (2, .int (bI a2))]) hx hb dX11_trial_60 hl (by decide) rfl (fun ls hl => ?_)
        refine lv_aload_n hx hb dX11_trial_62 rfl (lv_at hl 2 rfl) ?_
        replace h := z_bd h
        obtain ⟨u17, hq, h⟩ := h
        refine z_cvv (As := []) C0 hml hl.1 hW hS (c_X11_comesBack l D A b u13 hq) mv_X11_179 rfl ⟨Nat.le_of_ble_eq_true rfl, Nat.le_of_ble_eq_true rfl⟩ rfl rfl (Nat.le_of_ble_eq_true rfl) dX11_trial_63 (fun H locs hW hS => ?_)
        clear hq
        refine lv_iload hx hb dX11_trial_66 (lv_at hl 0 rfl) ?_
        cases h
        exact z_iret C0 hr hlk hW hS dX11_trial_68
    · replace h := z_f h hc
      clear hc
      refine lv_iconst (v := (0 : Int32)) hx hb dX11_trial_26 (by decide) ?_
      cases h
      exact z_iret C0 hr hlk hW hS dX11_trial_27
def f_X11_span_37 : Nat → Int32 → Bool → Int32 → Int32 → zU → Option (Int32 × zU)
  | 0, _, _, _, _, _ => none
  | n + 1, x1, x2, x3, x4, u =>
    if (6 : Int32) < x4 then (some (x3, u)) else (z_let (z_up u 1 12 x4) (fun u4 => z_b2 (f_X11_goes x1 (-1 : Int32) u4) (fun r5 u6 => z_let (u6 1 6) (fun z7 => (f_X11_comesBack u6).bind (fun u8 => if x3 = (-1 : Int32) then (f_X11_span_37 n x1 x2 z7 (x4 + (1 : Int32)) u8) else (if x2 = true then (z_let (f_X11_greater x3 z7 u8) (fun r10 => f_X11_span_37 n x1 x2 r10 (x4 + (1 : Int32)) u8)) else (z_let (f_X11_lesser x3 z7 u8) (fun r9 => f_X11_span_37 n x1 x2 r9 (x4 + (1 : Int32)) u8))))))))
theorem f_X11_span_37_s (n : Nat) (x1 : Int32) (x2 : Bool) (x3 : Int32) (x4 : Int32) (u : zU) : f_X11_span_37 (n + 1) x1 x2 x3 x4 u = if (6 : Int32) < x4 then (some (x3, u)) else (z_let (z_up u 1 12 x4) (fun u4 => z_b2 (f_X11_goes x1 (-1 : Int32) u4) (fun r5 u6 => z_let (u6 1 6) (fun z7 => (f_X11_comesBack u6).bind (fun u8 => if x3 = (-1 : Int32) then (f_X11_span_37 n x1 x2 z7 (x4 + (1 : Int32)) u8) else (if x2 = true then (z_let (f_X11_greater x3 z7 u8) (fun r10 => f_X11_span_37 n x1 x2 r10 (x4 + (1 : Int32)) u8)) else (z_let (f_X11_lesser x3 z7 u8) (fun r9 => f_X11_span_37 n x1 x2 r9 (x4 + (1 : Int32)) u8)))))))) := rfl
def f_X11_span (a1 : Int32) (a2 : Bool) (u : zU) : Option (Int32 × zU) :=
  z_let (f_X11_isIn a1 (0 : Int32) (60 : Int32) u) (fun t1 => if t1 = true then (z_let (z_up u 0 0 (0 : Int32)) (fun u2 => if (u2 0 0) ≤ 0 then ((f_X11_putsAside u2).bind (fun u3 => f_X11_span_37 5000 a1 a2 (-1 : Int32) (1 : Int32) u3)) else (some ((0 : Int32), u2)))) else (z_let (z_up u 0 0 (1 : Int32)) (fun u11 => if (u11 0 0) ≤ 0 then ((f_X11_putsAside u11).bind (fun u12 => f_X11_span_37 5000 a1 a2 (-1 : Int32) (1 : Int32) u12)) else (some ((0 : Int32), u11)))))
set_option maxRecDepth 100000 in
set_option maxHeartbeats 4000000 in
theorem l_X11_span_37 {l : Launch} {D : zD} {A : Nat → Prop} {b : Nat} {p : Program} {e : Env} {s : State} {m : MethodId} {args : Array Value} {below : List Frame} {meth : Method} {c : Code} {v : Int32} {u' : zU} (C0 : z_C p c cX11_span s m args yX11_span.cls D A) (hr : meth.sig.returnType = (some .int)) (hml : c.maxLocals = 7) (hlk : meth.locks = false) : ∀ (n : Nat) (x1 : Int32) (x2 : Bool) (x3 : Int32) (x4 : Int32) (u : zU) (H : Heap) (locs : List Loc) (ls : Array Slot), f_X11_span_37 n x1 x2 x3 x4 u = some (v, u') → z_W D A b gM u H → va_S A s.heap H locs → lv_has ls 7 [(0, .ref (b + 0)), (1, .int x1), (2, .int (bI x2)), (3, .int x3), (4, .int x4)] → W p l e { frames := 45, cells := 0, slots := 0, locals := 1427 } s m args below meth c H locs 0 0 (z_End D A b gM below args s (some (.int v)) u') (F0 m 37 ls []) := by
  have hx := C0.1
  have hb := C0.2.1
  intro n
  induction n with
  | zero => intro x1 x2 x3 x4 u H locs ls h hW hS hl; cases h
  | succ n ih =>
    intro x1 x2 x3 x4 u H locs ls h hW hS hl
    rw [f_X11_span_37_s] at h
    refine lv_iload hx hb dX11_span_37 (lv_at hl 4 rfl) ?_
    refine lv_bipush (v := (6 : Int32)) hx hb dX11_span_39 (by decide) ?_
    refine lv_icmp_gt (tgt := 110) hx hb dX11_span_41 (by decide) (fun hc => ?_) (fun hc => ?_)
    · replace h := z_t h hc
      clear hc
      refine lv_iload_n hx hb dX11_span_110 rfl (lv_at hl 3 rfl) ?_
      cases h
      exact z_iret C0 hr hlk hW hS dX11_span_111
    · replace h := z_f h hc
      clear hc
      refine lv_aload_n hx hb dX11_span_44 rfl (lv_at hl 0 rfl) ?_
      refine z_getr (o := 1) C0 hW fl_X11_7 rfl rfl rfl dX11_span_45 ?_
      refine lv_bipush (v := (12 : Int32)) hx hb dX11_span_48 (by decide) ?_
      refine lv_iload hx hb dX11_span_50 (lv_at hl 4 rfl) ?_
      refine z_iast (k := 12) (n := 705) C0 hW hS rfl rfl (by decide) (by decide) dX11_span_52 (fun H locs u4 e1 hW hS => ?_)
      replace h := z_ly h e1
      clear e1
      refine lv_aload_n hx hb dX11_span_53 rfl (lv_at hl 0 rfl) ?_
      refine lv_iload_n hx hb dX11_span_54 rfl (lv_at hl 1 rfl) ?_
      refine lv_iconst (v := (-1 : Int32)) hx hb dX11_span_55 (by decide) ?_
      replace h := z_bd2 h
      obtain ⟨r5, u6, hq, h⟩ := h
      refine z_cvi (As := [.int x1, .int (-1 : Int32)]) C0 hml hl.1 hW hS (c_X11_goes l D A b x1 (-1 : Int32) u4 hq) mv_X11_321 rfl ⟨Nat.le_of_ble_eq_true rfl, Nat.le_of_ble_eq_true rfl⟩ rfl rfl (Nat.le_of_ble_eq_true rfl) dX11_span_56 (fun H locs hW hS => ?_)
      clear hq
      refine lv_istore (lv' := [(5, .int r5), (0, .ref (b + 0)), (1, .int x1), (2, .int (bI x2)), (3, .int x3), (4, .int x4)]) hx hb dX11_span_59 hl (by decide) rfl (fun ls hl => ?_)
      refine lv_aload_n hx hb dX11_span_61 rfl (lv_at hl 1 rfl) ?_
      refine z_getr (o := 1) C0 hW fl_X11_7 rfl rfl rfl dX11_span_62 ?_
      refine lv_bipush (v := (6 : Int32)) hx hb dX11_span_65 (by decide) ?_
      refine z_iald (k := 6) (n := 705) C0 hW rfl rfl (by decide) (by decide) dX11_span_67 ?_
      refine lv_topi (fun z7 e1 => ?_)
      replace h := z_ly h e1
      clear e1
      refine lv_istore (lv' := [(6, .int z7), (5, .int r5), (0, .ref (b + 0)), (1, .int x1), (2, .int (bI x2)), (3, .int x3), (4, .int x4)]) hx hb dX11_span_68 hl (by decide) rfl (fun ls hl => ?_)
      refine lv_aload_n hx hb dX11_span_70 rfl (lv_at hl 2 rfl) ?_
      replace h := z_bd h
      obtain ⟨u8, hq, h⟩ := h
      refine z_cvv (As := []) C0 hml hl.1 hW hS (c_X11_comesBack l D A b u6 hq) mv_X11_179 rfl ⟨Nat.le_of_ble_eq_true rfl, Nat.le_of_ble_eq_true rfl⟩ rfl rfl (Nat.le_of_ble_eq_true rfl) dX11_span_71 (fun H locs hW hS => ?_)
      clear hq
      refine lv_iload_n hx hb dX11_span_74 rfl (lv_at hl 5 rfl) ?_
      refine lv_iconst (v := (-1 : Int32)) hx hb dX11_span_75 (by decide) ?_
      refine lv_icmp_ne (tgt := 84) hx hb dX11_span_76 (by decide) (fun hc => ?_) (fun hc => ?_)
      · replace h := z_f h hc
        clear hc
        refine lv_iload_n hx hb dX11_span_84 rfl (lv_at hl 4 rfl) ?_
        refine z_ifeqZ C0 (tgt := 97) dX11_span_85 (by decide) (fun hc => ?_) (fun hc => ?_)
        · replace h := z_ff h hc
          clear hc
          refine lv_iload_n hx hb dX11_span_97 rfl (lv_at hl 5 rfl) ?_
          refine lv_iload hx hb dX11_span_98 (lv_at hl 0 rfl) ?_
          obtain ⟨r9, hq⟩ : ∃ y, f_X11_lesser x3 z7 u8 = y := ⟨_, rfl⟩
          replace h := z_lz h hq
          refine z_csi (As := [.int x3, .int z7]) C0 hml hl.1 hW hS (c_X11_lesser l D A b x3 z7 u8 hq) ms_X11_63 ⟨Nat.le_of_ble_eq_true rfl, Nat.le_of_ble_eq_true rfl⟩ rfl rfl (Nat.le_of_ble_eq_true rfl) dX11_span_100 (fun H locs hW hS => ?_)
          clear hq
          refine lv_istore_n (lv' := [(3, .int r9), (6, .int z7), (5, .int r5), (0, .ref (b + 0)), (1, .int x1), (2, .int (bI x2)), (4, .int x4)]) hx hb dX11_span_103 rfl hl (by decide) rfl (fun ls hl => ?_)
          refine lv_iinc (v := x4 + (1 : Int32)) (lv' := [(4, .int (x4 + (1 : Int32))), (3, .int r9), (6, .int z7), (5, .int r5), (0, .ref (b + 0)), (1, .int x1), (2, .int (bI x2))]) hx hb dX11_span_104 hl (k := 6) rfl rfl (by decide) rfl (fun ls hl => ?_)
          refine lv_goto (tgt := 37) hx hb dX11_span_107 (by decide) ?_
          exact ih _ _ _ _ _ _ _ _ h hW hS (lv_sub hl [4, 5, 6, 1, 0] rfl)
        · replace h := z_t h hc
          clear hc
          refine lv_iload_n hx hb dX11_span_88 rfl (lv_at hl 5 rfl) ?_
          refine lv_iload hx hb dX11_span_89 (lv_at hl 0 rfl) ?_
          obtain ⟨r10, hq⟩ : ∃ y, f_X11_greater x3 z7 u8 = y := ⟨_, rfl⟩
          replace h := z_lz h hq
          refine z_csi (As := [.int x3, .int z7]) C0 hml hl.1 hW hS (c_X11_greater l D A b x3 z7 u8 hq) ms_X11_258 ⟨Nat.le_of_ble_eq_true rfl, Nat.le_of_ble_eq_true rfl⟩ rfl rfl (Nat.le_of_ble_eq_true rfl) dX11_span_91 (fun H locs hW hS => ?_)
          clear hq
          refine lv_goto (tgt := 103) hx hb dX11_span_94 (by decide) ?_
          refine lv_istore_n (lv' := [(3, .int r10), (6, .int z7), (5, .int r5), (0, .ref (b + 0)), (1, .int x1), (2, .int (bI x2)), (4, .int x4)]) hx hb dX11_span_103 rfl hl (by decide) rfl (fun ls hl => ?_)
          refine lv_iinc (v := x4 + (1 : Int32)) (lv' := [(4, .int (x4 + (1 : Int32))), (3, .int r10), (6, .int z7), (5, .int r5), (0, .ref (b + 0)), (1, .int x1), (2, .int (bI x2))]) hx hb dX11_span_104 hl (k := 6) rfl rfl (by decide) rfl (fun ls hl => ?_)
          refine lv_goto (tgt := 37) hx hb dX11_span_107 (by decide) ?_
          exact ih _ _ _ _ _ _ _ _ h hW hS (lv_sub hl [4, 5, 6, 1, 0] rfl)
      · replace h := z_t h hc
        clear hc
        refine lv_iload hx hb dX11_span_79 (lv_at hl 0 rfl) ?_
        refine lv_goto (tgt := 103) hx hb dX11_span_81 (by decide) ?_
        refine lv_istore_n (lv' := [(3, .int z7), (6, .int z7), (5, .int r5), (0, .ref (b + 0)), (1, .int x1), (2, .int (bI x2)), (4, .int x4)]) hx hb dX11_span_103 rfl hl (by decide) rfl (fun ls hl => ?_)
        refine lv_iinc (v := x4 + (1 : Int32)) (lv' := [(4, .int (x4 + (1 : Int32))), (3, .int z7), (6, .int z7), (5, .int r5), (0, .ref (b + 0)), (1, .int x1), (2, .int (bI x2))]) hx hb dX11_span_104 hl (k := 6) rfl rfl (by decide) rfl (fun ls hl => ?_)
        refine lv_goto (tgt := 37) hx hb dX11_span_107 (by decide) ?_
        exact ih _ _ _ _ _ _ _ _ h hW hS (lv_sub hl [4, 5, 6, 1, 0] rfl)
theorem f_X11_span_e (a1 : Int32) (a2 : Bool) (u : zU) : f_X11_span a1 a2 u = z_let (f_X11_isIn a1 (0 : Int32) (60 : Int32) u) (fun t1 => if t1 = true then (z_let (z_up u 0 0 (0 : Int32)) (fun u2 => if (u2 0 0) ≤ 0 then ((f_X11_putsAside u2).bind (fun u3 => f_X11_span_37 5000 a1 a2 (-1 : Int32) (1 : Int32) u3)) else (some ((0 : Int32), u2)))) else (z_let (z_up u 0 0 (1 : Int32)) (fun u11 => if (u11 0 0) ≤ 0 then ((f_X11_putsAside u11).bind (fun u12 => f_X11_span_37 5000 a1 a2 (-1 : Int32) (1 : Int32) u12)) else (some ((0 : Int32), u11))))) := rfl
set_option maxRecDepth 100000 in
set_option maxHeartbeats 4000000 in
theorem c_X11_span (l : Launch) (D : zD) (A : Nat → Prop) (b : Nat) (a1 : Int32) (a2 : Bool) (u : zU) {v : Int32} {u' : zU} (h : f_X11_span a1 a2 u = some (v, u')) : z_M l D A b gM yX11_span cX11_span 7 (some .int) 45 1427 [.ref (b + 0), .int a1, .int (bI a2)] u (some (.int v)) u' := by
  refine z_enter (by decide) (Nat.le_of_ble_eq_true rfl) ?_
  intro p e s m below meth c ls C0 hr hml hlk hW hS hl
  have hl : lv_has ls 7 [(0, .ref (b + 0)), (1, .int a1), (2, .int (bI a2))] := hl
  have hx := C0.1
  have hb := C0.2.1
  rw [f_X11_span_e] at h
  refine lv_aload_n hx hb dX11_span_0 rfl (lv_at hl 0 rfl) ?_
  refine lv_iload_n hx hb dX11_span_1 rfl (lv_at hl 1 rfl) ?_
  refine lv_iconst (v := (0 : Int32)) hx hb dX11_span_2 (by decide) ?_
  refine lv_bipush (v := (60 : Int32)) hx hb dX11_span_3 (by decide) ?_
  obtain ⟨t1, hq⟩ : ∃ y, f_X11_isIn a1 (0 : Int32) (60 : Int32) u = y := ⟨_, rfl⟩
  replace h := z_lz h hq
  refine z_csi (As := [.int a1, .int (0 : Int32), .int (60 : Int32)]) C0 hml hl.1 hW hS (c_X11_isIn l D A b a1 (0 : Int32) (60 : Int32) u hq) ms_X11_45 ⟨Nat.le_of_ble_eq_true rfl, Nat.le_of_ble_eq_true rfl⟩ rfl rfl (Nat.le_of_ble_eq_true rfl) dX11_span_5 (fun H locs hW hS => ?_)
  clear hq
  refine z_ifneZ C0 (tgt := 15) dX11_span_8 (by decide) (fun hc => ?_) (fun hc => ?_)
  · replace h := z_t h hc
    clear hc
    refine lv_iconst (v := (0 : Int32)) hx hb dX11_span_15 (by decide) ?_
    refine z_puti C0 hW hS fl_X11_42 rfl rfl rfl rfl dX11_span_16 (fun H locs u2 e1 hW hS => ?_)
    replace h := z_ly h e1
    clear e1
    refine lv_aload_n hx hb dX11_span_19 rfl (lv_at hl 0 rfl) ?_
    refine z_geti C0 hW fl_X11_42 rfl rfl dX11_span_20 ?_
    refine lv_if_le (tgt := 28) hx hb dX11_span_23 (by decide) (fun hc => ?_) (fun hc => ?_)
    · replace h := z_t h hc
      clear hc
      refine lv_aload_n hx hb dX11_span_28 rfl (lv_at hl 0 rfl) ?_
      replace h := z_bd h
      obtain ⟨u3, hq, h⟩ := h
      refine z_cvv (As := []) C0 hml hl.1 hW hS (c_X11_putsAside l D A b u2 hq) mv_X11_169 rfl ⟨Nat.le_of_ble_eq_true rfl, Nat.le_of_ble_eq_true rfl⟩ rfl rfl (Nat.le_of_ble_eq_true rfl) dX11_span_29 (fun H locs hW hS => ?_)
      clear hq
      refine lv_iconst (v := (-1 : Int32)) hx hb dX11_span_32 (by decide) ?_
      refine lv_istore_n (lv' := [(3, .int (-1 : Int32)), (0, .ref (b + 0)), (1, .int a1), (2, .int (bI a2))]) hx hb dX11_span_33 rfl hl (by decide) rfl (fun ls hl => ?_)
      refine lv_iconst (v := (1 : Int32)) hx hb dX11_span_34 (by decide) ?_
      refine lv_istore (lv' := [(4, .int (1 : Int32)), (3, .int (-1 : Int32)), (0, .ref (b + 0)), (1, .int a1), (2, .int (bI a2))]) hx hb dX11_span_35 hl (by decide) rfl (fun ls hl => ?_)
      exact l_X11_span_37 C0 hr hml hlk 5000 _ _ _ _ _ _ _ _ h hW hS (lv_sub hl [2, 3, 4, 1, 0] rfl)
    · replace h := z_f h hc
      clear hc
      refine lv_iconst (v := (0 : Int32)) hx hb dX11_span_26 (by decide) ?_
      cases h
      exact z_iret C0 hr hlk hW hS dX11_span_27
  · replace h := z_ff h hc
    clear hc
    refine lv_iconst (v := (1 : Int32)) hx hb dX11_span_11 (by decide) ?_
    refine lv_goto (tgt := 16) hx hb dX11_span_12 (by decide) ?_
    refine z_puti C0 hW hS fl_X11_42 rfl rfl rfl rfl dX11_span_16 (fun H locs u11 e1 hW hS => ?_)
    replace h := z_ly h e1
    clear e1
    refine lv_aload_n hx hb dX11_span_19 rfl (lv_at hl 0 rfl) ?_
    refine z_geti C0 hW fl_X11_42 rfl rfl dX11_span_20 ?_
    refine lv_if_le (tgt := 28) hx hb dX11_span_23 (by decide) (fun hc => ?_) (fun hc => ?_)
    · replace h := z_t h hc
      clear hc
      refine lv_aload_n hx hb dX11_span_28 rfl (lv_at hl 0 rfl) ?_
      replace h := z_bd h
      obtain ⟨u12, hq, h⟩ := h
      refine z_cvv (As := []) C0 hml hl.1 hW hS (c_X11_putsAside l D A b u11 hq) mv_X11_169 rfl ⟨Nat.le_of_ble_eq_true rfl, Nat.le_of_ble_eq_true rfl⟩ rfl rfl (Nat.le_of_ble_eq_true rfl) dX11_span_29 (fun H locs hW hS => ?_)
      clear hq
      refine lv_iconst (v := (-1 : Int32)) hx hb dX11_span_32 (by decide) ?_
      refine lv_istore_n (lv' := [(3, .int (-1 : Int32)), (0, .ref (b + 0)), (1, .int a1), (2, .int (bI a2))]) hx hb dX11_span_33 rfl hl (by decide) rfl (fun ls hl => ?_)
      refine lv_iconst (v := (1 : Int32)) hx hb dX11_span_34 (by decide) ?_
      refine lv_istore (lv' := [(4, .int (1 : Int32)), (3, .int (-1 : Int32)), (0, .ref (b + 0)), (1, .int a1), (2, .int (bI a2))]) hx hb dX11_span_35 hl (by decide) rfl (fun ls hl => ?_)
      exact l_X11_span_37 C0 hr hml hlk 5000 _ _ _ _ _ _ _ _ h hW hS (lv_sub hl [2, 3, 4, 1, 0] rfl)
    · replace h := z_f h hc
      clear hc
      refine lv_iconst (v := (0 : Int32)) hx hb dX11_span_26 (by decide) ?_
      cases h
      exact z_iret C0 hr hlk hW hS dX11_span_27
