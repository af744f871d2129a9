def f_J6_bitCount_0f7a4 (a0 : Int32) (u : zU) : Int32 :=
  z_let (a0 - ((z_ushr a0 (1 : Int32)) &&& (1431655765 : Int32))) (fun z1 => z_let ((z1 &&& (858993459 : Int32)) + ((z_ushr z1 (2 : Int32)) &&& (858993459 : Int32))) (fun z2 => z_let ((z2 + (z_ushr z2 (4 : Int32))) &&& (252645135 : Int32)) (fun z3 => z_let (z3 + (z_ushr z3 (8 : Int32))) (fun z4 => z_let (z4 + (z_ushr z4 (16 : Int32))) (fun z5 => z5 &&& (63 : Int32))))))
theorem f_J6_bitCount_0f7a4_e (a0 : Int32) (u : zU) : f_J6_bitCount_0f7a4 a0 u = z_let (a0 - ((z_ushr a0 (1 : Int32)) &&& (1431655765 : Int32))) (fun z1 => z_let ((z1 &&& (858993459 : Int32)) + ((z_ushr z1 (2 : Int32)) &&& (858993459 : Int32))) (fun z2 => z_let ((z2 + (z_ushr z2 (4 : Int32))) &&& (252645135 : Int32)) (fun z3 => z_let (z3 + (z_ushr z3 (8 : Int32))) (fun z4 => z_let (z4 + (z_ushr z4 (16 : Int32))) (fun z5 => z5 &&& (63 : Int32)))))) := rfl
set_option maxRecDepth 100000 in
set_option maxHeartbeats 4000000 in
theorem c_J6_bitCount_0f7a4 (l : Launch) (D : zD) (A : Nat → Prop) (b : Nat) (g : zG) (a0 : Int32) (u : zU) {v : Int32} (h : f_J6_bitCount_0f7a4 a0 u = v) : z_M l D A b g yJ6_bitCount_0f7a4 cJ6_bitCount_0f7a4 1 (some .int) 0 0 [.int a0] u (some (.int v)) u := by
  refine z_enter (by decide) (Nat.le_of_ble_eq_true rfl) ?_
  intro p e s m below meth c ls C0 hr hml hlk hW hS hl
  have hl : lv_has ls 1 [(0, .int a0)] := hl
  have hx := C0.1
  have hb := C0.2.1
  rw [f_J6_bitCount_0f7a4_e] at h
  refine lv_iload_n hx hb dJ6_bitCount_0f7a4_0 rfl (lv_at hl 0 rfl) ?_
  refine lv_iload_n hx hb dJ6_bitCount_0f7a4_1 rfl (lv_at hl 0 rfl) ?_
  refine lv_iconst (v := (1 : Int32)) hx hb dJ6_bitCount_0f7a4_2 (by decide) ?_
  refine lv_iushr (v := z_ushr a0 (1 : Int32)) hx hb dJ6_bitCount_0f7a4_3 rfl ?_
  refine lv_ldcw (own := yJ6_bitCount_0f7a4.cls) (v := (1431655765 : Int32)) hx hb C0.2.2.2.1 (C0.2.2.1 _ k_J6_265) dJ6_bitCount_0f7a4_4 ?_
  refine lv_iand hx hb dJ6_bitCount_0f7a4_7 ?_
  refine lv_isub hx hb dJ6_bitCount_0f7a4_8 ?_
  refine lv_topi (fun z1 e1 => ?_)
  replace h := z_ly h e1
  clear e1
  refine lv_istore_n (lv' := [(0, .int z1)]) hx hb dJ6_bitCount_0f7a4_9 rfl hl (by decide) rfl (fun ls hl => ?_)
  refine lv_iload_n hx hb dJ6_bitCount_0f7a4_10 rfl (lv_at hl 0 rfl) ?_
  refine lv_ldcw (own := yJ6_bitCount_0f7a4.cls) (v := (858993459 : Int32)) hx hb C0.2.2.2.1 (C0.2.2.1 _ k_J6_266) dJ6_bitCount_0f7a4_11 ?_
  refine lv_iand hx hb dJ6_bitCount_0f7a4_14 ?_
  refine lv_iload_n hx hb dJ6_bitCount_0f7a4_15 rfl (lv_at hl 0 rfl) ?_
  refine lv_iconst (v := (2 : Int32)) hx hb dJ6_bitCount_0f7a4_16 (by decide) ?_
  refine lv_iushr (v := z_ushr z1 (2 : Int32)) hx hb dJ6_bitCount_0f7a4_17 rfl ?_
  refine lv_ldcw (own := yJ6_bitCount_0f7a4.cls) (v := (858993459 : Int32)) hx hb C0.2.2.2.1 (C0.2.2.1 _ k_J6_266) dJ6_bitCount_0f7a4_18 ?_
  refine lv_iand hx hb dJ6_bitCount_0f7a4_21 ?_
  refine lv_iadd hx hb dJ6_bitCount_0f7a4_22 ?_
  refine lv_topi (fun z2 e1 => ?_)
  replace h := z_ly h e1
  clear e1
  refine lv_istore_n (lv' := [(0, .int z2)]) hx hb dJ6_bitCount_0f7a4_23 rfl hl (by decide) rfl (fun ls hl => ?_)
  refine lv_iload_n hx hb dJ6_bitCount_0f7a4_24 rfl (lv_at hl 0 rfl) ?_
  refine lv_iload_n hx hb dJ6_bitCount_0f7a4_25 rfl (lv_at hl 0 rfl) ?_
  refine lv_iconst (v := (4 : Int32)) hx hb dJ6_bitCount_0f7a4_26 (by decide) ?_
  refine lv_iushr (v := z_ushr z2 (4 : Int32)) hx hb dJ6_bitCount_0f7a4_27 rfl ?_
  refine lv_iadd hx hb dJ6_bitCount_0f7a4_28 ?_
  refine lv_ldcw (own := yJ6_bitCount_0f7a4.cls) (v := (252645135 : Int32)) hx hb C0.2.2.2.1 (C0.2.2.1 _ k_J6_267) dJ6_bitCount_0f7a4_29 ?_
  refine lv_iand hx hb dJ6_bitCount_0f7a4_32 ?_
  refine lv_topi (fun z3 e1 => ?_)
  replace h := z_ly h e1
  clear e1
  refine lv_istore_n (lv' := [(0, .int z3)]) hx hb dJ6_bitCount_0f7a4_33 rfl hl (by decide) rfl (fun ls hl => ?_)
  refine lv_iload_n hx hb dJ6_bitCount_0f7a4_34 rfl (lv_at hl 0 rfl) ?_
  refine lv_iload_n hx hb dJ6_bitCount_0f7a4_35 rfl (lv_at hl 0 rfl) ?_
  refine lv_bipush (v := (8 : Int32)) hx hb dJ6_bitCount_0f7a4_36 (by decide) ?_
  refine lv_iushr (v := z_ushr z3 (8 : Int32)) hx hb dJ6_bitCount_0f7a4_38 rfl ?_
  refine lv_iadd hx hb dJ6_bitCount_0f7a4_39 ?_
  refine lv_topi (fun z4 e1 => ?_)
  replace h := z_ly h e1
  clear e1
  refine lv_istore_n (lv' := [(0, .int z4)]) hx hb dJ6_bitCount_0f7a4_40 rfl hl (by decide) rfl (fun ls hl => ?_)
  refine lv_iload_n hx hb dJ6_bitCount_0f7a4_41 rfl (lv_at hl 0 rfl) ?_
  refine lv_iload_n hx hb dJ6_bitCount_0f7a4_42 rfl (lv_at hl 0 rfl) ?_
  refine lv_bipush (v := (16 : Int32)) hx hb dJ6_bitCount_0f7a4_43 (by decide) ?_
  refine lv_iushr (v := z_ushr z4 (16 : Int32)) hx hb dJ6_bitCount_0f7a4_45 rfl ?_
  refine lv_iadd hx hb dJ6_bitCount_0f7a4_46 ?_
  refine lv_topi (fun z5 e1 => ?_)
  replace h := z_ly h e1
  clear e1
  refine lv_istore_n (lv' := [(0, .int z5)]) hx hb dJ6_bitCount_0f7a4_47 rfl hl (by decide) rfl (fun ls hl => ?_)
  refine lv_iload_n hx hb dJ6_bitCount_0f7a4_48 rfl (lv_at hl 0 rfl) ?_
  refine lv_bipush (v := (63 : Int32)) hx hb dJ6_bitCount_0f7a4_49 (by decide) ?_
  refine lv_iand hx hb dJ6_bitCount_0f7a4_51 ?_
  cases h
  exact z_iret C0 hr hlk hW hS dJ6_bitCount_0f7a4_52
def f_J9_floorMod_7cf53 (a0 : Int32) (a1 : Int32) (u : zU) : Option (Int32) :=
  if ¬ a1 = 0 then (z_let (z_rem a0 a1) (fun z1 => if 0 ≤ (a0 ^^^ a1) then (some z1) else (if z1 = 0 then (some z1) else (some (z1 + a1))))) else none
theorem f_J9_floorMod_7cf53_e (a0 : Int32) (a1 : Int32) (u : zU) : f_J9_floorMod_7cf53 a0 a1 u = if ¬ a1 = 0 then (z_let (z_rem a0 a1) (fun z1 => if 0 ≤ (a0 ^^^ a1) then (some z1) else (if z1 = 0 then (some z1) else (some (z1 + a1))))) else none := rfl
set_option maxRecDepth 100000 in
set_option maxHeartbeats 4000000 in
theorem c_J9_floorMod_7cf53 (l : Launch) (D : zD) (A : Nat → Prop) (b : Nat) (g : zG) (a0 : Int32) (a1 : Int32) (u : zU) {v : Int32} (h : f_J9_floorMod_7cf53 a0 a1 u = some v) : z_M l D A b g yJ9_floorMod_7cf53 cJ9_floorMod_7cf53 3 (some .int) 0 0 [.int a0, .int a1] u (some (.int v)) u := by
  refine z_enterF (by decide +kernel) (Nat.le_of_ble_eq_true rfl) ?_
  intro p e s m below meth c ls C0 hr hml hlk hW hS hl
  have hl : lv_has ls 3 [(0, .int a0), (1, .int a1)] := hl
  have hx := C0.1
  have hb := C0.2.1
  rw [f_J9_floorMod_7cf53_e] at h
  refine lv_iload_n hx hb dJ9_floorMod_7cf53_0 rfl (lv_at hl 0 rfl) ?_
  refine lv_iload_n hx hb dJ9_floorMod_7cf53_1 rfl (lv_at hl 1 rfl) ?_
  replace h := z_if h
  obtain ⟨hne, h⟩ := h
  refine lv_irem hx hb dJ9_floorMod_7cf53_2 hne ?_
  clear hne
  refine lv_topi (fun z1 e1 => ?_)
  replace h := z_ly h e1
  clear e1
  refine lv_istore_n (lv' := [(2, .int z1), (0, .int a0), (1, .int a1)]) hx hb dJ9_floorMod_7cf53_3 rfl hl (by decide) rfl (fun ls hl => ?_)
  refine lv_iload_n hx hb dJ9_floorMod_7cf53_4 rfl (lv_at hl 1 rfl) ?_
  refine lv_iload_n hx hb dJ9_floorMod_7cf53_5 rfl (lv_at hl 2 rfl) ?_
  refine lv_ixor hx hb dJ9_floorMod_7cf53_6 ?_
  refine lv_if_ge (tgt := 18) hx hb dJ9_floorMod_7cf53_7 (by decide) (fun hc => ?_) (fun hc => ?_)
  · replace h := z_t h hc
    clear hc
    refine lv_iload_n hx hb dJ9_floorMod_7cf53_18 rfl (lv_at hl 0 rfl) ?_
    cases h
    exact z_iret C0 hr hlk hW hS dJ9_floorMod_7cf53_19
  · replace h := z_f h hc
    clear hc
    refine lv_iload_n hx hb dJ9_floorMod_7cf53_10 rfl (lv_at hl 0 rfl) ?_
    refine lv_if_eq (tgt := 18) hx hb dJ9_floorMod_7cf53_11 (by decide) (fun hc => ?_) (fun hc => ?_)
    · replace h := z_t h hc
      clear hc
      refine lv_iload_n hx hb dJ9_floorMod_7cf53_18 rfl (lv_at hl 0 rfl) ?_
      cases h
      exact z_iret C0 hr hlk hW hS dJ9_floorMod_7cf53_19
    · replace h := z_f h hc
      clear hc
      refine lv_iload_n hx hb dJ9_floorMod_7cf53_14 rfl (lv_at hl 0 rfl) ?_
      refine lv_iload_n hx hb dJ9_floorMod_7cf53_15 rfl (lv_at hl 2 rfl) ?_
      refine lv_iadd hx hb dJ9_floorMod_7cf53_16 ?_
      cases h
      exact z_iret C0 hr hlk hW hS dJ9_floorMod_7cf53_17
def f_X7_add_3 : Nat → Int32 → Int32 → zU → Option (zU)
  | 0, _, _, _ => none
  | n + 1, x1, x2, u =>
    if x2 < 0 then (some u) else (if (400 : Int32) ≤ (u 1 1) then (f_X7_add_3 n x1 (x2 + (-8 : Int32)) u) else (if z_in (u 1 1) 400 = true then (z_let (z_up u 2 (u 1 1).toNatClampNeg ((z_ushr x1 x2) &&& (255 : Int32))) (fun u1 => z_let (z_up u1 1 1 ((u1 1 1) + (1 : Int32))) (fun u2 => f_X7_add_3 n x1 (x2 + (-8 : Int32)) u2))) else none))
theorem f_X7_add_3_s (n : Nat) (x1 : Int32) (x2 : Int32) (u : zU) : f_X7_add_3 (n + 1) x1 x2 u = if x2 < 0 then (some u) else (if (400 : Int32) ≤ (u 1 1) then (f_X7_add_3 n x1 (x2 + (-8 : Int32)) u) else (if z_in (u 1 1) 400 = true then (z_let (z_up u 2 (u 1 1).toNatClampNeg ((z_ushr x1 x2) &&& (255 : Int32))) (fun u1 => z_let (z_up u1 1 1 ((u1 1 1) + (1 : Int32))) (fun u2 => f_X7_add_3 n x1 (x2 + (-8 : Int32)) u2))) else none)) := rfl
def f_X7_add (a1 : Int32) (u : zU) : Option (zU) :=
  f_X7_add_3 5000 a1 (24 : Int32) u
set_option maxRecDepth 100000 in
set_option maxHeartbeats 4000000 in
theorem l_X7_add_3 {l : Launch} {D : zD} {A : Nat → Prop} {b : Nat} {p : Program} {e : Env} {s : State} {m : MethodId} {args : Array Value} {below : List Frame} {meth : Method} {c : Code} {g : zG} {u' : zU} (C0 : z_C p c cX7_add s m args yX7_add.cls D A) (hr : meth.sig.returnType = none) (hml : c.maxLocals = 3) (hlk : meth.locks = false) (hs : zSt g) : ∀ (n : Nat) (x1 : Int32) (x2 : Int32) (u : zU) (H : Heap) (locs : List Loc) (ls : Array Slot), f_X7_add_3 n x1 x2 u = some u' → z_W D A b g u H → va_S A s.heap H locs → lv_has ls 3 [(0, .ref (b + 1)), (1, .int x1), (2, .int x2)] → W p l e { frames := 0, cells := 0, slots := 0, locals := 0 } s m args below meth c H locs 0 0 (z_End D A b g below args s none u') (F0 m 3 ls []) := by
  have hx := C0.1
  have hb := C0.2.1
  intro n
  induction n with
  | zero => intro x1 x2 u H locs ls h hW hS hl; cases h
  | succ n ih =>
    intro x1 x2 u H locs ls h hW hS hl
    rw [f_X7_add_3_s] at h
    refine lv_iload_n hx hb dX7_add_3 rfl (lv_at hl 2 rfl) ?_
    refine lv_if_lt (tgt := 51) hx hb dX7_add_4 (by decide) (fun hc => ?_) (fun hc => ?_)
    · replace h := z_t h hc
      clear hc
      cases h
      exact z_vret C0 hr hlk hW hS dX7_add_51
    · replace h := z_f h hc
      clear hc
      refine lv_aload_n hx hb dX7_add_7 rfl (lv_at hl 0 rfl) ?_
      refine z_geti C0 hW fl_X7_15 (zk1 (hs 1 (by decide))) rfl dX7_add_8 ?_
      refine lv_aload_n hx hb dX7_add_11 rfl (lv_at hl 0 rfl) ?_
      refine z_getr (o := 2) C0 hW fl_X7_9 (zk1 (hs 1 (by decide))) rfl (zk3 (hs 1 (by decide)) 0) dX7_add_12 ?_
      refine z_alen (n := 400) (v := (400 : Int32)) C0 hW (zk1 (hs 2 (by decide))) (zk2 (hs 2 (by decide))) rfl dX7_add_15 ?_
      refine lv_icmp_ge (tgt := 45) hx hb dX7_add_16 (by decide) (fun hc => ?_) (fun hc => ?_)
      · replace h := z_t h hc
        clear hc
        refine lv_iinc (v := x2 + (-8 : Int32)) (lv' := [(2, .int (x2 + (-8 : Int32))), (0, .ref (b + 1)), (1, .int x1)]) hx hb dX7_add_45 hl (k := 2) rfl rfl (by decide) rfl (fun ls hl => ?_)
        refine lv_goto (tgt := 3) hx hb dX7_add_48 (by decide) ?_
        exact ih _ _ _ _ _ _ h hW hS (lv_sub hl [1, 2, 0] rfl)
      · replace h := z_f h hc
        clear hc
        refine lv_aload_n hx hb dX7_add_19 rfl (lv_at hl 0 rfl) ?_
        refine z_getr (o := 2) C0 hW fl_X7_9 (zk1 (hs 1 (by decide))) rfl (zk3 (hs 1 (by decide)) 0) dX7_add_20 ?_
        refine lv_aload_n hx hb dX7_add_23 rfl (lv_at hl 0 rfl) ?_
        refine z_geti C0 hW fl_X7_15 (zk1 (hs 1 (by decide))) rfl dX7_add_24 ?_
        refine lv_iload_n hx hb dX7_add_27 rfl (lv_at hl 1 rfl) ?_
        refine lv_iload_n hx hb dX7_add_28 rfl (lv_at hl 2 rfl) ?_
        refine lv_iushr (v := z_ushr x1 x2) hx hb dX7_add_29 rfl ?_
        refine lv_sipush (v := (255 : Int32)) hx hb dX7_add_30 (by decide) ?_
        refine lv_iand hx hb dX7_add_33 ?_
        replace h := z_if h
        obtain ⟨hin, h⟩ := h
        refine z_iast (n := 400) C0 hW hS (zk1 (hs 2 (by decide))) (zk2 (hs 2 (by decide))) hin rfl dX7_add_34 (fun H locs u1 e1 hW hS => ?_)
        replace h := z_ly h e1
        clear e1
        refine lv_aload_n hx hb dX7_add_35 rfl (lv_at hl 0 rfl) ?_
        refine lv_dup hx hb dX7_add_36 rfl ?_
        refine z_geti C0 hW fl_X7_15 (zk1 (hs 1 (by decide))) rfl dX7_add_37 ?_
        refine lv_iconst (v := (1 : Int32)) hx hb dX7_add_40 (by decide) ?_
        refine lv_iadd hx hb dX7_add_41 ?_
        refine z_puti C0 hW hS fl_X7_15 (zk1 (hs 1 (by decide))) rfl rfl rfl dX7_add_42 (fun H locs u2 e1 hW hS => ?_)
        replace h := z_ly h e1
        clear e1
        refine lv_iinc (v := x2 + (-8 : Int32)) (lv' := [(2, .int (x2 + (-8 : Int32))), (0, .ref (b + 1)), (1, .int x1)]) hx hb dX7_add_45 hl (k := 2) rfl rfl (by decide) rfl (fun ls hl => ?_)
        refine lv_goto (tgt := 3) hx hb dX7_add_48 (by decide) ?_
        exact ih _ _ _ _ _ _ h hW hS (lv_sub hl [1, 2, 0] rfl)
theorem f_X7_add_e (a1 : Int32) (u : zU) : f_X7_add a1 u = f_X7_add_3 5000 a1 (24 : Int32) u := rfl
set_option maxRecDepth 100000 in
set_option maxHeartbeats 4000000 in
theorem c_X7_add (l : Launch) (D : zD) (A : Nat → Prop) (b : Nat) (g : zG) (hs : zSt g) (a1 : Int32) (u : zU) {u' : zU} (h : f_X7_add a1 u = some u') : z_M l D A b g yX7_add cX7_add 3 none 0 0 [.ref (b + 1), .int a1] u none u' := by
  refine z_enter (by decide) (Nat.le_of_ble_eq_true rfl) ?_
  intro p e s m below meth c ls C0 hr hml hlk hW hS hl
  have hl : lv_has ls 3 [(0, .ref (b + 1)), (1, .int a1)] := hl
  have hx := C0.1
  have hb := C0.2.1
  rw [f_X7_add_e] at h
  refine lv_bipush (v := (24 : Int32)) hx hb dX7_add_0 (by decide) ?_
  refine lv_istore_n (lv' := [(2, .int (24 : Int32)), (0, .ref (b + 1)), (1, .int a1)]) hx hb dX7_add_2 rfl hl (by decide) rfl (fun ls hl => ?_)
  exact l_X7_add_3 C0 hr hml hlk hs 5000 _ _ _ _ _ _ h hW hS (lv_sub hl [1, 2, 0] rfl)
def f_X7_least_4 : Nat → Int32 → Int32 → zU → Option (Int32)
  | 0, _, _, _ => none
  | n + 1, x2, x3, u =>
    if (u 1 1) ≤ x3 then (some x2) else (if z_in x3 400 = true then (z_let (u 2 (x3).toNatClampNeg) (fun z1 => z_let (z_min x2 z1) (fun z2 => f_X7_least_4 n z2 (x3 + (1 : Int32)) u))) else none)
theorem f_X7_least_4_s (n : Nat) (x2 : Int32) (x3 : Int32) (u : zU) : f_X7_least_4 (n + 1) x2 x3 u = if (u 1 1) ≤ x3 then (some x2) else (if z_in x3 400 = true then (z_let (u 2 (x3).toNatClampNeg) (fun z1 => z_let (z_min x2 z1) (fun z2 => f_X7_least_4 n z2 (x3 + (1 : Int32)) u))) else none) := rfl
def f_X7_least (a1 : Int32) (u : zU) : Option (Int32) :=
  f_X7_least_4 5000 a1 (0 : Int32) u
set_option maxRecDepth 100000 in
set_option maxHeartbeats 4000000 in
theorem l_X7_least_4 {l : Launch} {D : zD} {A : Nat → Prop} {b : Nat} {p : Program} {e : Env} {s : State} {m : MethodId} {args : Array Value} {below : List Frame} {meth : Method} {c : Code} {g : zG} {v : Int32} {u : zU} (C0 : z_C p c cX7_least s m args yX7_least.cls D A) (hr : meth.sig.returnType = (some .int)) (hml : c.maxLocals = 4) (hlk : meth.locks = false) (hs : zSt g) : ∀ (n : Nat) (x2 : Int32) (x3 : Int32) (H : Heap) (locs : List Loc) (ls : Array Slot), f_X7_least_4 n x2 x3 u = some v → z_W D A b g u H → va_S A s.heap H locs → lv_has ls 4 [(0, .ref (b + 1)), (2, .int x2), (3, .int x3)] → W p l e { frames := 1, cells := 0, slots := 0, locals := 21 } s m args below meth c H locs 0 0 (z_End D A b g below args s (some (.int v)) u) (F0 m 4 ls []) := by
  have hx := C0.1
  have hb := C0.2.1
  intro n
  induction n with
  | zero => intro x2 x3 H locs ls h hW hS hl; cases h
  | succ n ih =>
    intro x2 x3 H locs ls h hW hS hl
    rw [f_X7_least_4_s] at h
    refine lv_iload_n hx hb dX7_least_4 rfl (lv_at hl 2 rfl) ?_
    refine lv_aload_n hx hb dX7_least_5 rfl (lv_at hl 0 rfl) ?_
    refine z_geti C0 hW fl_X7_15 (zk1 (hs 1 (by decide))) rfl dX7_least_6 ?_
    refine lv_icmp_ge (tgt := 29) hx hb dX7_least_9 (by decide) (fun hc => ?_) (fun hc => ?_)
    · replace h := z_t h hc
      clear hc
      refine lv_iload_n hx hb dX7_least_29 rfl (lv_at hl 1 rfl) ?_
      cases h
      exact z_iret C0 hr hlk hW hS dX7_least_30
    · replace h := z_f h hc
      clear hc
      refine lv_iload_n hx hb dX7_least_12 rfl (lv_at hl 1 rfl) ?_
      refine lv_aload_n hx hb dX7_least_13 rfl (lv_at hl 0 rfl) ?_
      refine z_getr (o := 2) C0 hW fl_X7_9 (zk1 (hs 1 (by decide))) rfl (zk3 (hs 1 (by decide)) 0) dX7_least_14 ?_
      refine lv_iload_n hx hb dX7_least_17 rfl (lv_at hl 2 rfl) ?_
      replace h := z_if h
      obtain ⟨hin, h⟩ := h
      refine z_iald (n := 400) C0 hW (zk1 (hs 2 (by decide))) (zk2 (hs 2 (by decide))) hin rfl dX7_least_18 ?_
      clear hin
      refine lv_topi (fun z1 e1 => ?_)
      replace h := z_ly h e1
      clear e1
      refine va_mmin hx hb (hml.trans hl.1.symm) C0.2.2.2.1 (C0.2.2.1 _ w_mm_X7_19) (C0.2.2.1 _ w_mst_min) (C0.2.2.1 _ w_min_Math) (C0.2.2.1 _ w_mco_min) (Nat.le_of_ble_eq_true rfl) (Nat.le_of_ble_eq_true rfl) (Nat.zero_le _) (Nat.zero_le _) dX7_least_19 ?_
      refine lv_topi (fun z2 e1 => ?_)
      replace h := z_ly h e1
      clear e1
      refine lv_istore_n (lv' := [(2, .int z2), (0, .ref (b + 1)), (3, .int x3)]) hx hb dX7_least_22 rfl hl (by decide) rfl (fun ls hl => ?_)
      refine lv_iinc (v := x3 + (1 : Int32)) (lv' := [(3, .int (x3 + (1 : Int32))), (2, .int z2), (0, .ref (b + 1))]) hx hb dX7_least_23 hl (k := 2) rfl rfl (by decide) rfl (fun ls hl => ?_)
      refine lv_goto (tgt := 4) hx hb dX7_least_26 (by decide) ?_
      exact ih _ _ _ _ _ h hW hS (lv_sub hl [2, 1, 0] rfl)
theorem f_X7_least_e (a1 : Int32) (u : zU) : f_X7_least a1 u = f_X7_least_4 5000 a1 (0 : Int32) u := rfl
set_option maxRecDepth 100000 in
set_option maxHeartbeats 4000000 in
theorem c_X7_least (l : Launch) (D : zD) (A : Nat → Prop) (b : Nat) (g : zG) (hs : zSt g) (a1 : Int32) (u : zU) {v : Int32} (h : f_X7_least a1 u = some v) : z_M l D A b g yX7_least cX7_least 4 (some .int) 1 21 [.ref (b + 1), .int a1] u (some (.int v)) u := by
  refine z_enter (by decide) (Nat.le_of_ble_eq_true rfl) ?_
  intro p e s m below meth c ls C0 hr hml hlk hW hS hl
  have hl : lv_has ls 4 [(0, .ref (b + 1)), (1, .int a1)] := hl
  have hx := C0.1
  have hb := C0.2.1
  rw [f_X7_least_e] at h
  refine lv_iload_n hx hb dX7_least_0 rfl (lv_at hl 1 rfl) ?_
  refine lv_istore_n (lv' := [(2, .int a1), (0, .ref (b + 1)), (1, .int a1)]) hx hb dX7_least_1 rfl hl (by decide) rfl (fun ls hl => ?_)
  refine lv_iconst (v := (0 : Int32)) hx hb dX7_least_2 (by decide) ?_
  refine lv_istore_n (lv' := [(3, .int (0 : Int32)), (2, .int a1), (0, .ref (b + 1)), (1, .int a1)]) hx hb dX7_least_3 rfl hl (by decide) rfl (fun ls hl => ?_)
  exact l_X7_least_4 C0 hr hml hlk hs 5000 _ _ _ _ _ h hW hS (lv_sub hl [2, 1, 0] rfl)
def f_X7_greatest_4 : Nat → Int32 → Int32 → zU → Option (Int32)
  | 0, _, _, _ => none
  | n + 1, x1, x2, u =>
    if (u 1 1) ≤ x2 then (some x1) else (if z_in x2 400 = true then (z_let (u 2 (x2).toNatClampNeg) (fun z1 => z_let (z_max x1 z1) (fun z2 => f_X7_greatest_4 n z2 (x2 + (1 : Int32)) u))) else none)
theorem f_X7_greatest_4_s (n : Nat) (x1 : Int32) (x2 : Int32) (u : zU) : f_X7_greatest_4 (n + 1) x1 x2 u = if (u 1 1) ≤ x2 then (some x1) else (if z_in x2 400 = true then (z_let (u 2 (x2).toNatClampNeg) (fun z1 => z_let (z_max x1 z1) (fun z2 => f_X7_greatest_4 n z2 (x2 + (1 : Int32)) u))) else none) := rfl
def f_X7_greatest  (u : zU) : Option (Int32) :=
  f_X7_greatest_4 5000 (0 : Int32) (0 : Int32) u
set_option maxRecDepth 100000 in
set_option maxHeartbeats 4000000 in
theorem l_X7_greatest_4 {l : Launch} {D : zD} {A : Nat → Prop} {b : Nat} {p : Program} {e : Env} {s : State} {m : MethodId} {args : Array Value} {below : List Frame} {meth : Method} {c : Code} {g : zG} {v : Int32} {u : zU} (C0 : z_C p c cX7_greatest s m args yX7_greatest.cls D A) (hr : meth.sig.returnType = (some .int)) (hml : c.maxLocals = 3) (hlk : meth.locks = false) (hs : zSt g) : ∀ (n : Nat) (x1 : Int32) (x2 : Int32) (H : Heap) (locs : List Loc) (ls : Array Slot), f_X7_greatest_4 n x1 x2 u = some v → z_W D A b g u H → va_S A s.heap H locs → lv_has ls 3 [(0, .ref (b + 1)), (1, .int x1), (2, .int x2)] → W p l e { frames := 1, cells := 0, slots := 0, locals := 21 } s m args below meth c H locs 0 0 (z_End D A b g below args s (some (.int v)) u) (F0 m 4 ls []) := by
  have hx := C0.1
  have hb := C0.2.1
  intro n
  induction n with
  | zero => intro x1 x2 H locs ls h hW hS hl; cases h
  | succ n ih =>
    intro x1 x2 H locs ls h hW hS hl
    rw [f_X7_greatest_4_s] at h
    refine lv_iload_n hx hb dX7_greatest_4 rfl (lv_at hl 2 rfl) ?_
    refine lv_aload_n hx hb dX7_greatest_5 rfl (lv_at hl 0 rfl) ?_
    refine z_geti C0 hW fl_X7_15 (zk1 (hs 1 (by decide))) rfl dX7_greatest_6 ?_
    refine lv_icmp_ge (tgt := 29) hx hb dX7_greatest_9 (by decide) (fun hc => ?_) (fun hc => ?_)
    · replace h := z_t h hc
      clear hc
      refine lv_iload_n hx hb dX7_greatest_29 rfl (lv_at hl 1 rfl) ?_
      cases h
      exact z_iret C0 hr hlk hW hS dX7_greatest_30
    · replace h := z_f h hc
      clear hc
      refine lv_iload_n hx hb dX7_greatest_12 rfl (lv_at hl 1 rfl) ?_
      refine lv_aload_n hx hb dX7_greatest_13 rfl (lv_at hl 0 rfl) ?_
      refine z_getr (o := 2) C0 hW fl_X7_9 (zk1 (hs 1 (by decide))) rfl (zk3 (hs 1 (by decide)) 0) dX7_greatest_14 ?_
      refine lv_iload_n hx hb dX7_greatest_17 rfl (lv_at hl 2 rfl) ?_
      replace h := z_if h
      obtain ⟨hin, h⟩ := h
      refine z_iald (n := 400) C0 hW (zk1 (hs 2 (by decide))) (zk2 (hs 2 (by decide))) hin rfl dX7_greatest_18 ?_
      clear hin
      refine lv_topi (fun z1 e1 => ?_)
      replace h := z_ly h e1
      clear e1
      refine va_mmax hx hb (hml.trans hl.1.symm) C0.2.2.2.1 (C0.2.2.1 _ w_mm_X7_25) (C0.2.2.1 _ w_mst_max) (C0.2.2.1 _ w_min_Math) (C0.2.2.1 _ w_mco_max) (Nat.le_of_ble_eq_true rfl) (Nat.le_of_ble_eq_true rfl) (Nat.zero_le _) (Nat.zero_le _) dX7_greatest_19 ?_
      refine lv_topi (fun z2 e1 => ?_)
      replace h := z_ly h e1
      clear e1
      refine lv_istore_n (lv' := [(1, .int z2), (0, .ref (b + 1)), (2, .int x2)]) hx hb dX7_greatest_22 rfl hl (by decide) rfl (fun ls hl => ?_)
      refine lv_iinc (v := x2 + (1 : Int32)) (lv' := [(2, .int (x2 + (1 : Int32))), (1, .int z2), (0, .ref (b + 1))]) hx hb dX7_greatest_23 hl (k := 2) rfl rfl (by decide) rfl (fun ls hl => ?_)
      refine lv_goto (tgt := 4) hx hb dX7_greatest_26 (by decide) ?_
      exact ih _ _ _ _ _ h hW hS (lv_sub hl [2, 1, 0] rfl)
theorem f_X7_greatest_e  (u : zU) : f_X7_greatest u = f_X7_greatest_4 5000 (0 : Int32) (0 : Int32) u := rfl
set_option maxRecDepth 100000 in
set_option maxHeartbeats 4000000 in
theorem c_X7_greatest (l : Launch) (D : zD) (A : Nat → Prop) (b : Nat) (g : zG) (hs : zSt g)  (u : zU) {v : Int32} (h : f_X7_greatest u = some v) : z_M l D A b g yX7_greatest cX7_greatest 3 (some .int) 1 21 [.ref (b + 1)] u (some (.int v)) u := by
  refine z_enter (by decide) (Nat.le_of_ble_eq_true rfl) ?_
  intro p e s m below meth c ls C0 hr hml hlk hW hS hl
  have hl : lv_has ls 3 [(0, .ref (b + 1))] := hl
  have hx := C0.1
  have hb := C0.2.1
  rw [f_X7_greatest_e] at h
  refine lv_iconst (v := (0 : Int32)) hx hb dX7_greatest_0 (by decide) ?_
  refine lv_istore_n (lv' := [(1, .int (0 : Int32)), (0, .ref (b + 1))]) hx hb dX7_greatest_1 rfl hl (by decide) rfl (fun ls hl => ?_)
  refine lv_iconst (v := (0 : Int32)) hx hb dX7_greatest_2 (by decide) ?_
  refine lv_istore_n (lv' := [(2, .int (0 : Int32)), (1, .int (0 : Int32)), (0, .ref (b + 1))]) hx hb dX7_greatest_3 rfl hl (by decide) rfl (fun ls hl => ?_)
  exact l_X7_greatest_4 C0 hr hml hlk hs 5000 _ _ _ _ _ h hW hS (lv_sub hl [2, 1, 0] rfl)
def f_X7_fireHeights_14 (K : Int32 → Int32 → Option (Int32)) : Nat → Int32 → Int32 → Int32 → Int32 → zU → Option (Int32)
  | 0, _, _, _, _, _ => none
  | n + 1, x1, x2, x3, x4, u =>
    if (u 1 1) ≤ (x4 + (1 : Int32)) then (if x3 = 0 then (z_let (x1 ||| (0 : Int32)) (fun z1 => K z1 (x2 + (1 : Int32)))) else (z_let (x1 ||| ((1 : Int32) <<< (x2 &&& 31))) (fun z2 => K z2 (x2 + (1 : Int32))))) else (if z_in (x4 + (1 : Int32)) 400 = true then (z_let (u 2 (x4 + (1 : Int32)).toNatClampNeg) (fun z3 => if z3 = (1 : Int32) then (if x3 = 0 then (f_X7_fireHeights_14 K n x1 x2 (0 : Int32) (x4 + (2 : Int32)) u) else (if z_in x4 400 = true then (z_let (u 2 (x4).toNatClampNeg) (fun z5 => if z5 < x2 then (f_X7_fireHeights_14 K n x1 x2 (0 : Int32) (x4 + (2 : Int32)) u) else (f_X7_fireHeights_14 K n x1 x2 (1 : Int32) (x4 + (2 : Int32)) u))) else none)) else (if x3 = 0 then (f_X7_fireHeights_14 K n x1 x2 (0 : Int32) (x4 + (2 : Int32)) u) else (if z_in x4 400 = true then (z_let (u 2 (x4).toNatClampNeg) (fun z4 => if z4 < x2 then (f_X7_fireHeights_14 K n x1 x2 (1 : Int32) (x4 + (2 : Int32)) u) else (f_X7_fireHeights_14 K n x1 x2 (0 : Int32) (x4 + (2 : Int32)) u))) else none)))) else none)
theorem f_X7_fireHeights_14_s (K : Int32 → Int32 → Option (Int32)) (n : Nat) (x1 : Int32) (x2 : Int32) (x3 : Int32) (x4 : Int32) (u : zU) : f_X7_fireHeights_14 K (n + 1) x1 x2 x3 x4 u = if (u 1 1) ≤ (x4 + (1 : Int32)) then (if x3 = 0 then (z_let (x1 ||| (0 : Int32)) (fun z1 => K z1 (x2 + (1 : Int32)))) else (z_let (x1 ||| ((1 : Int32) <<< (x2 &&& 31))) (fun z2 => K z2 (x2 + (1 : Int32))))) else (if z_in (x4 + (1 : Int32)) 400 = true then (z_let (u 2 (x4 + (1 : Int32)).toNatClampNeg) (fun z3 => if z3 = (1 : Int32) then (if x3 = 0 then (f_X7_fireHeights_14 K n x1 x2 (0 : Int32) (x4 + (2 : Int32)) u) else (if z_in x4 400 = true then (z_let (u 2 (x4).toNatClampNeg) (fun z5 => if z5 < x2 then (f_X7_fireHeights_14 K n x1 x2 (0 : Int32) (x4 + (2 : Int32)) u) else (f_X7_fireHeights_14 K n x1 x2 (1 : Int32) (x4 + (2 : Int32)) u))) else none)) else (if x3 = 0 then (f_X7_fireHeights_14 K n x1 x2 (0 : Int32) (x4 + (2 : Int32)) u) else (if z_in x4 400 = true then (z_let (u 2 (x4).toNatClampNeg) (fun z4 => if z4 < x2 then (f_X7_fireHeights_14 K n x1 x2 (1 : Int32) (x4 + (2 : Int32)) u) else (f_X7_fireHeights_14 K n x1 x2 (0 : Int32) (x4 + (2 : Int32)) u))) else none)))) else none) := rfl
def f_X7_fireHeights_4 : Nat → Int32 → Int32 → zU → Option (Int32)
  | 0, _, _, _ => none
  | n + 1, x1, x2, u =>
    if (5 : Int32) < x2 then (some x1) else (f_X7_fireHeights_14 (fun k1 k2 => f_X7_fireHeights_4 n k1 k2 u) 5000 x1 x2 (1 : Int32) (0 : Int32) u)
theorem f_X7_fireHeights_4_s (n : Nat) (x1 : Int32) (x2 : Int32) (u : zU) : f_X7_fireHeights_4 (n + 1) x1 x2 u = if (5 : Int32) < x2 then (some x1) else (f_X7_fireHeights_14 (fun k1 k2 => f_X7_fireHeights_4 n k1 k2 u) 5000 x1 x2 (1 : Int32) (0 : Int32) u) := rfl
def f_X7_fireHeights  (u : zU) : Option (Int32) :=
  f_X7_fireHeights_4 5000 (0 : Int32) (0 : Int32) u
set_option maxRecDepth 100000 in
set_option maxHeartbeats 4000000 in
theorem l_X7_fireHeights_14 {l : Launch} {D : zD} {A : Nat → Prop} {b : Nat} {p : Program} {e : Env} {s : State} {m : MethodId} {args : Array Value} {below : List Frame} {meth : Method} {c : Code} {g : zG} {v : Int32} {u : zU} {K : Int32 → Int32 → Option (Int32)} (C0 : z_C p c cX7_fireHeights s m args yX7_fireHeights.cls D A) (hr : meth.sig.returnType = (some .int)) (hml : c.maxLocals = 6) (hlk : meth.locks = false) (hs : zSt g) (hK : ∀ (x1 : Int32) (x2 : Int32) (H : Heap) (locs : List Loc) (ls : Array Slot), K x1 x2 = some v → z_W D A b g u H → va_S A s.heap H locs → lv_has ls 6 [(0, .ref (b + 1)), (1, .int x1), (2, .int x2)] → W p l e { frames := 0, cells := 0, slots := 0, locals := 0 } s m args below meth c H locs 0 0 (z_End D A b g below args s (some (.int v)) u) (F0 m 4 ls [])) : ∀ (n : Nat) (x1 : Int32) (x2 : Int32) (x3 : Int32) (x4 : Int32) (H : Heap) (locs : List Loc) (ls : Array Slot), f_X7_fireHeights_14 K n x1 x2 x3 x4 u = some v → z_W D A b g u H → va_S A s.heap H locs → lv_has ls 6 [(0, .ref (b + 1)), (1, .int x1), (2, .int x2), (3, .int x3), (4, .int x4)] → W p l e { frames := 0, cells := 0, slots := 0, locals := 0 } s m args below meth c H locs 0 0 (z_End D A b g below args s (some (.int v)) u) (F0 m 14 ls []) := by
  have hx := C0.1
  have hb := C0.2.1
  intro n
  induction n with
  | zero => intro x1 x2 x3 x4 H locs ls h hW hS hl; cases h
  | succ n ih =>
    intro x1 x2 x3 x4 H locs ls h hW hS hl
    rw [f_X7_fireHeights_14_s] at h
    refine lv_iload hx hb dX7_fireHeights_14 (lv_at hl 4 rfl) ?_
    refine lv_iconst (v := (1 : Int32)) hx hb dX7_fireHeights_16 (by decide) ?_
    refine lv_iadd hx hb dX7_fireHeights_17 ?_
    refine lv_aload_n hx hb dX7_fireHeights_18 rfl (lv_at hl 0 rfl) ?_
    refine z_geti C0 hW fl_X7_15 (zk1 (hs 1 (by decide))) rfl dX7_fireHeights_19 ?_
    refine lv_icmp_ge (tgt := 82) hx hb dX7_fireHeights_22 (by decide) (fun hc => ?_) (fun hc => ?_)
    · replace h := z_t h hc
      clear hc
      refine lv_iload_n hx hb dX7_fireHeights_82 rfl (lv_at hl 1 rfl) ?_
      refine lv_iload_n hx hb dX7_fireHeights_83 rfl (lv_at hl 3 rfl) ?_
      refine lv_if_eq (tgt := 93) hx hb dX7_fireHeights_84 (by decide) (fun hc => ?_) (fun hc => ?_)
      · replace h := z_t h hc
        clear hc
        refine lv_iconst (v := (0 : Int32)) hx hb dX7_fireHeights_93 (by decide) ?_
        refine lv_ior hx hb dX7_fireHeights_94 ?_
        refine lv_topi (fun z1 e1 => ?_)
        replace h := z_ly h e1
        clear e1
        refine lv_istore_n (lv' := [(1, .int z1), (0, .ref (b + 1)), (2, .int x2), (3, .int x3), (4, .int x4)]) hx hb dX7_fireHeights_95 rfl hl (by decide) rfl (fun ls hl => ?_)
        refine lv_iinc (v := x2 + (1 : Int32)) (lv' := [(2, .int (x2 + (1 : Int32))), (1, .int z1), (0, .ref (b + 1)), (3, .int x3), (4, .int x4)]) hx hb dX7_fireHeights_96 hl (k := 2) rfl rfl (by decide) rfl (fun ls hl => ?_)
        refine lv_goto (tgt := 4) hx hb dX7_fireHeights_99 (by decide) ?_
        exact hK _ _ _ _ _ h hW hS (lv_sub hl [2, 1, 0] rfl)
      · replace h := z_f h hc
        clear hc
        refine lv_iconst (v := (1 : Int32)) hx hb dX7_fireHeights_87 (by decide) ?_
        refine lv_iload_n hx hb dX7_fireHeights_88 rfl (lv_at hl 2 rfl) ?_
        refine lv_ishl hx hb dX7_fireHeights_89 ?_
        refine lv_goto (tgt := 94) hx hb dX7_fireHeights_90 (by decide) ?_
        refine lv_ior hx hb dX7_fireHeights_94 ?_
        refine lv_topi (fun z2 e1 => ?_)
        replace h := z_ly h e1
        clear e1
        refine lv_istore_n (lv' := [(1, .int z2), (0, .ref (b + 1)), (2, .int x2), (3, .int x3), (4, .int x4)]) hx hb dX7_fireHeights_95 rfl hl (by decide) rfl (fun ls hl => ?_)
        refine lv_iinc (v := x2 + (1 : Int32)) (lv' := [(2, .int (x2 + (1 : Int32))), (1, .int z2), (0, .ref (b + 1)), (3, .int x3), (4, .int x4)]) hx hb dX7_fireHeights_96 hl (k := 2) rfl rfl (by decide) rfl (fun ls hl => ?_)
        refine lv_goto (tgt := 4) hx hb dX7_fireHeights_99 (by decide) ?_
        exact hK _ _ _ _ _ h hW hS (lv_sub hl [2, 1, 0] rfl)
    · replace h := z_f h hc
      clear hc
      refine lv_aload_n hx hb dX7_fireHeights_25 rfl (lv_at hl 0 rfl) ?_
      refine z_getr (o := 2) C0 hW fl_X7_9 (zk1 (hs 1 (by decide))) rfl (zk3 (hs 1 (by decide)) 0) dX7_fireHeights_26 ?_
      refine lv_iload hx hb dX7_fireHeights_29 (lv_at hl 4 rfl) ?_
      refine lv_iconst (v := (1 : Int32)) hx hb dX7_fireHeights_31 (by decide) ?_
      refine lv_iadd hx hb dX7_fireHeights_32 ?_
      replace h := z_if h
      obtain ⟨hin, h⟩ := h
      refine z_iald (n := 400) C0 hW (zk1 (hs 2 (by decide))) (zk2 (hs 2 (by decide))) hin rfl dX7_fireHeights_33 ?_
      clear hin
      refine lv_topi (fun z3 e1 => ?_)
      replace h := z_ly h e1
      clear e1
      refine lv_iconst (v := (1 : Int32)) hx hb dX7_fireHeights_34 (by decide) ?_
      refine lv_icmp_ne (tgt := 42) hx hb dX7_fireHeights_35 (by decide) (fun hc => ?_) (fun hc => ?_)
      · replace h := z_f h hc
        clear hc
        refine lv_iconst (v := (0 : Int32)) hx hb dX7_fireHeights_42 (by decide) ?_
        refine lv_istore (lv' := [(5, .int (0 : Int32)), (0, .ref (b + 1)), (1, .int x1), (2, .int x2), (3, .int x3), (4, .int x4)]) hx hb dX7_fireHeights_43 hl (by decide) rfl (fun ls hl => ?_)
        refine lv_iload_n hx hb dX7_fireHeights_45 rfl (lv_at hl 4 rfl) ?_
        refine lv_if_eq (tgt := 74) hx hb dX7_fireHeights_46 (by decide) (fun hc => ?_) (fun hc => ?_)
        · replace h := z_t h hc
          clear hc
          refine lv_iconst (v := (0 : Int32)) hx hb dX7_fireHeights_74 (by decide) ?_
          refine lv_istore_n (lv' := [(3, .int (0 : Int32)), (5, .int (0 : Int32)), (0, .ref (b + 1)), (1, .int x1), (2, .int x2), (4, .int x4)]) hx hb dX7_fireHeights_75 rfl hl (by decide) rfl (fun ls hl => ?_)
          refine lv_iinc (v := x4 + (2 : Int32)) (lv' := [(4, .int (x4 + (2 : Int32))), (3, .int (0 : Int32)), (5, .int (0 : Int32)), (0, .ref (b + 1)), (1, .int x1), (2, .int x2)]) hx hb dX7_fireHeights_76 hl (k := 5) rfl rfl (by decide) rfl (fun ls hl => ?_)
          refine lv_goto (tgt := 14) hx hb dX7_fireHeights_79 (by decide) ?_
          exact ih _ _ _ _ _ _ _ h hW hS (lv_sub hl [3, 4, 5, 1, 0] rfl)
        · replace h := z_f h hc
          clear hc
          refine lv_iload hx hb dX7_fireHeights_49 (lv_at hl 0 rfl) ?_
          refine lv_aload_n hx hb dX7_fireHeights_51 rfl (lv_at hl 1 rfl) ?_
          refine z_getr (o := 2) C0 hW fl_X7_9 (zk1 (hs 1 (by decide))) rfl (zk3 (hs 1 (by decide)) 0) dX7_fireHeights_52 ?_
          refine lv_iload hx hb dX7_fireHeights_55 (lv_at hl 5 rfl) ?_
          replace h := z_if h
          obtain ⟨hin, h⟩ := h
          refine z_iald (n := 400) C0 hW (zk1 (hs 2 (by decide))) (zk2 (hs 2 (by decide))) hin rfl dX7_fireHeights_57 ?_
          clear hin
          refine lv_topi (fun z4 e1 => ?_)
          replace h := z_ly h e1
          clear e1
          refine lv_iload_n hx hb dX7_fireHeights_58 rfl (lv_at hl 3 rfl) ?_
          refine lv_icmp_lt (tgt := 66) hx hb dX7_fireHeights_59 (by decide) (fun hc => ?_) (fun hc => ?_)
          · replace h := z_t h hc
            clear hc
            refine lv_iconst (v := (0 : Int32)) hx hb dX7_fireHeights_66 (by decide) ?_
            refine lv_icmp_ne (tgt := 74) hx hb dX7_fireHeights_67 (by decide) (fun hc => ?_) (fun hc => ?_)
            · exact absurd hc (by decide)
            · clear hc
              refine lv_iconst (v := (1 : Int32)) hx hb dX7_fireHeights_70 (by decide) ?_
              refine lv_goto (tgt := 75) hx hb dX7_fireHeights_71 (by decide) ?_
              refine lv_istore_n (lv' := [(3, .int (1 : Int32)), (5, .int (0 : Int32)), (0, .ref (b + 1)), (1, .int x1), (2, .int x2), (4, .int x4)]) hx hb dX7_fireHeights_75 rfl hl (by decide) rfl (fun ls hl => ?_)
              refine lv_iinc (v := x4 + (2 : Int32)) (lv' := [(4, .int (x4 + (2 : Int32))), (3, .int (1 : Int32)), (5, .int (0 : Int32)), (0, .ref (b + 1)), (1, .int x1), (2, .int x2)]) hx hb dX7_fireHeights_76 hl (k := 5) rfl rfl (by decide) rfl (fun ls hl => ?_)
              refine lv_goto (tgt := 14) hx hb dX7_fireHeights_79 (by decide) ?_
              exact ih _ _ _ _ _ _ _ h hW hS (lv_sub hl [3, 4, 5, 1, 0] rfl)
          · replace h := z_f h hc
            clear hc
            refine lv_iconst (v := (1 : Int32)) hx hb dX7_fireHeights_62 (by decide) ?_
            refine lv_goto (tgt := 67) hx hb dX7_fireHeights_63 (by decide) ?_
            refine lv_icmp_ne (tgt := 74) hx hb dX7_fireHeights_67 (by decide) (fun hc => ?_) (fun hc => ?_)
            · clear hc
              refine lv_iconst (v := (0 : Int32)) hx hb dX7_fireHeights_74 (by decide) ?_
              refine lv_istore_n (lv' := [(3, .int (0 : Int32)), (5, .int (0 : Int32)), (0, .ref (b + 1)), (1, .int x1), (2, .int x2), (4, .int x4)]) hx hb dX7_fireHeights_75 rfl hl (by decide) rfl (fun ls hl => ?_)
              refine lv_iinc (v := x4 + (2 : Int32)) (lv' := [(4, .int (x4 + (2 : Int32))), (3, .int (0 : Int32)), (5, .int (0 : Int32)), (0, .ref (b + 1)), (1, .int x1), (2, .int x2)]) hx hb dX7_fireHeights_76 hl (k := 5) rfl rfl (by decide) rfl (fun ls hl => ?_)
              refine lv_goto (tgt := 14) hx hb dX7_fireHeights_79 (by decide) ?_
              exact ih _ _ _ _ _ _ _ h hW hS (lv_sub hl [3, 4, 5, 1, 0] rfl)
            · exact absurd hc (by decide)
      · replace h := z_t h hc
        clear hc
        refine lv_iconst (v := (1 : Int32)) hx hb dX7_fireHeights_38 (by decide) ?_
        refine lv_goto (tgt := 43) hx hb dX7_fireHeights_39 (by decide) ?_
        refine lv_istore (lv' := [(5, .int (1 : Int32)), (0, .ref (b + 1)), (1, .int x1), (2, .int x2), (3, .int x3), (4, .int x4)]) hx hb dX7_fireHeights_43 hl (by decide) rfl (fun ls hl => ?_)
        refine lv_iload_n hx hb dX7_fireHeights_45 rfl (lv_at hl 4 rfl) ?_
        refine lv_if_eq (tgt := 74) hx hb dX7_fireHeights_46 (by decide) (fun hc => ?_) (fun hc => ?_)
        · replace h := z_t h hc
          clear hc
          refine lv_iconst (v := (0 : Int32)) hx hb dX7_fireHeights_74 (by decide) ?_
          refine lv_istore_n (lv' := [(3, .int (0 : Int32)), (5, .int (1 : Int32)), (0, .ref (b + 1)), (1, .int x1), (2, .int x2), (4, .int x4)]) hx hb dX7_fireHeights_75 rfl hl (by decide) rfl (fun ls hl => ?_)
          refine lv_iinc (v := x4 + (2 : Int32)) (lv' := [(4, .int (x4 + (2 : Int32))), (3, .int (0 : Int32)), (5, .int (1 : Int32)), (0, .ref (b + 1)), (1, .int x1), (2, .int x2)]) hx hb dX7_fireHeights_76 hl (k := 5) rfl rfl (by decide) rfl (fun ls hl => ?_)
          refine lv_goto (tgt := 14) hx hb dX7_fireHeights_79 (by decide) ?_
          exact ih _ _ _ _ _ _ _ h hW hS (lv_sub hl [3, 4, 5, 1, 0] rfl)
        · replace h := z_f h hc
          clear hc
          refine lv_iload hx hb dX7_fireHeights_49 (lv_at hl 0 rfl) ?_
          refine lv_aload_n hx hb dX7_fireHeights_51 rfl (lv_at hl 1 rfl) ?_
          refine z_getr (o := 2) C0 hW fl_X7_9 (zk1 (hs 1 (by decide))) rfl (zk3 (hs 1 (by decide)) 0) dX7_fireHeights_52 ?_
          refine lv_iload hx hb dX7_fireHeights_55 (lv_at hl 5 rfl) ?_
          replace h := z_if h
          obtain ⟨hin, h⟩ := h
          refine z_iald (n := 400) C0 hW (zk1 (hs 2 (by decide))) (zk2 (hs 2 (by decide))) hin rfl dX7_fireHeights_57 ?_
          clear hin
          refine lv_topi (fun z5 e1 => ?_)
          replace h := z_ly h e1
          clear e1
          refine lv_iload_n hx hb dX7_fireHeights_58 rfl (lv_at hl 3 rfl) ?_
          refine lv_icmp_lt (tgt := 66) hx hb dX7_fireHeights_59 (by decide) (fun hc => ?_) (fun hc => ?_)
          · replace h := z_t h hc
            clear hc
            refine lv_iconst (v := (0 : Int32)) hx hb dX7_fireHeights_66 (by decide) ?_
            refine lv_icmp_ne (tgt := 74) hx hb dX7_fireHeights_67 (by decide) (fun hc => ?_) (fun hc => ?_)
            · clear hc
              refine lv_iconst (v := (0 : Int32)) hx hb dX7_fireHeights_74 (by decide) ?_
              refine lv_istore_n (lv' := [(3, .int (0 : Int32)), (5, .int (1 : Int32)), (0, .ref (b + 1)), (1, .int x1), (2, .int x2), (4, .int x4)]) hx hb dX7_fireHeights_75 rfl hl (by decide) rfl (fun ls hl => ?_)
              refine lv_iinc (v := x4 + (2 : Int32)) (lv' := [(4, .int (x4 + (2 : Int32))), (3, .int (0 : Int32)), (5, .int (1 : Int32)), (0, .ref (b + 1)), (1, .int x1), (2, .int x2)]) hx hb dX7_fireHeights_76 hl (k := 5) rfl rfl (by decide) rfl (fun ls hl => ?_)
              refine lv_goto (tgt := 14) hx hb dX7_fireHeights_79 (by decide) ?_
              exact ih _ _ _ _ _ _ _ h hW hS (lv_sub hl [3, 4, 5, 1, 0] rfl)
            · exact absurd hc (by decide)
          · replace h := z_f h hc
            clear hc
            refine lv_iconst (v := (1 : Int32)) hx hb dX7_fireHeights_62 (by decide) ?_
            refine lv_goto (tgt := 67) hx hb dX7_fireHeights_63 (by decide) ?_
            refine lv_icmp_ne (tgt := 74) hx hb dX7_fireHeights_67 (by decide) (fun hc => ?_) (fun hc => ?_)
            · exact absurd hc (by decide)
            · clear hc
              refine lv_iconst (v := (1 : Int32)) hx hb dX7_fireHeights_70 (by decide) ?_
              refine lv_goto (tgt := 75) hx hb dX7_fireHeights_71 (by decide) ?_
              refine lv_istore_n (lv' := [(3, .int (1 : Int32)), (5, .int (1 : Int32)), (0, .ref (b + 1)), (1, .int x1), (2, .int x2), (4, .int x4)]) hx hb dX7_fireHeights_75 rfl hl (by decide) rfl (fun ls hl => ?_)
              refine lv_iinc (v := x4 + (2 : Int32)) (lv' := [(4, .int (x4 + (2 : Int32))), (3, .int (1 : Int32)), (5, .int (1 : Int32)), (0, .ref (b + 1)), (1, .int x1), (2, .int x2)]) hx hb dX7_fireHeights_76 hl (k := 5) rfl rfl (by decide) rfl (fun ls hl => ?_)
              refine lv_goto (tgt := 14) hx hb dX7_fireHeights_79 (by decide) ?_
              exact ih _ _ _ _ _ _ _ h hW hS (lv_sub hl [3, 4, 5, 1, 0] rfl)
set_option maxRecDepth 100000 in
set_option maxHeartbeats 4000000 in
theorem l_X7_fireHeights_4 {l : Launch} {D : zD} {A : Nat → Prop} {b : Nat} {p : Program} {e : Env} {s : State} {m : MethodId} {args : Array Value} {below : List Frame} {meth : Method} {c : Code} {g : zG} {v : Int32} {u : zU} (C0 : z_C p c cX7_fireHeights s m args yX7_fireHeights.cls D A) (hr : meth.sig.returnType = (some .int)) (hml : c.maxLocals = 6) (hlk : meth.locks = false) (hs : zSt g) : ∀ (n : Nat) (x1 : Int32) (x2 : Int32) (H : Heap) (locs : List Loc) (ls : Array Slot), f_X7_fireHeights_4 n x1 x2 u = some v → z_W D A b g u H → va_S A s.heap H locs → lv_has ls 6 [(0, .ref (b + 1)), (1, .int x1), (2, .int x2)] → W p l e { frames := 0, cells := 0, slots := 0, locals := 0 } s m args below meth c H locs 0 0 (z_End D A b g below args s (some (.int v)) u) (F0 m 4 ls []) := by
  have hx := C0.1
  have hb := C0.2.1
  intro n
  induction n with
  | zero => intro x1 x2 H locs ls h hW hS hl; cases h
  | succ n ih =>
    intro x1 x2 H locs ls h hW hS hl
    rw [f_X7_fireHeights_4_s] at h
    refine lv_iload_n hx hb dX7_fireHeights_4 rfl (lv_at hl 2 rfl) ?_
    refine lv_iconst (v := (5 : Int32)) hx hb dX7_fireHeights_5 (by decide) ?_
    refine lv_icmp_gt (tgt := 102) hx hb dX7_fireHeights_6 (by decide) (fun hc => ?_) (fun hc => ?_)
    · replace h := z_t h hc
      clear hc
      refine lv_iload_n hx hb dX7_fireHeights_102 rfl (lv_at hl 1 rfl) ?_
      cases h
      exact z_iret C0 hr hlk hW hS dX7_fireHeights_103
    · replace h := z_f h hc
      clear hc
      refine lv_iconst (v := (1 : Int32)) hx hb dX7_fireHeights_9 (by decide) ?_
      refine lv_istore_n (lv' := [(3, .int (1 : Int32)), (0, .ref (b + 1)), (1, .int x1), (2, .int x2)]) hx hb dX7_fireHeights_10 rfl hl (by decide) rfl (fun ls hl => ?_)
      refine lv_iconst (v := (0 : Int32)) hx hb dX7_fireHeights_11 (by decide) ?_
      refine lv_istore (lv' := [(4, .int (0 : Int32)), (3, .int (1 : Int32)), (0, .ref (b + 1)), (1, .int x1), (2, .int x2)]) hx hb dX7_fireHeights_12 hl (by decide) rfl (fun ls hl => ?_)
      exact l_X7_fireHeights_14 C0 hr hml hlk hs (fun q0 q1 q2 q3 q4 h hW hS hl => ih q0 q1 q2 q3 q4 h hW hS hl) 5000 _ _ _ _ _ _ _ h hW hS (lv_sub hl [2, 3, 4, 1, 0] rfl)
theorem f_X7_fireHeights_e  (u : zU) : f_X7_fireHeights u = f_X7_fireHeights_4 5000 (0 : Int32) (0 : Int32) u := rfl
set_option maxRecDepth 100000 in
set_option maxHeartbeats 4000000 in
theorem c_X7_fireHeights (l : Launch) (D : zD) (A : Nat → Prop) (b : Nat) (g : zG) (hs : zSt g)  (u : zU) {v : Int32} (h : f_X7_fireHeights u = some v) : z_M l D A b g yX7_fireHeights cX7_fireHeights 6 (some .int) 0 0 [.ref (b + 1)] u (some (.int v)) u := by
  refine z_enter (by decide) (Nat.le_of_ble_eq_true rfl) ?_
  intro p e s m below meth c ls C0 hr hml hlk hW hS hl
  have hl : lv_has ls 6 [(0, .ref (b + 1))] := hl
  have hx := C0.1
  have hb := C0.2.1
  rw [f_X7_fireHeights_e] at h
  refine lv_iconst (v := (0 : Int32)) hx hb dX7_fireHeights_0 (by decide) ?_
  refine lv_istore_n (lv' := [(1, .int (0 : Int32)), (0, .ref (b + 1))]) hx hb dX7_fireHeights_1 rfl hl (by decide) rfl (fun ls hl => ?_)
  refine lv_iconst (v := (0 : Int32)) hx hb dX7_fireHeights_2 (by decide) ?_
  refine lv_istore_n (lv' := [(2, .int (0 : Int32)), (1, .int (0 : Int32)), (0, .ref (b + 1))]) hx hb dX7_fireHeights_3 rfl hl (by decide) rfl (fun ls hl => ?_)
  exact l_X7_fireHeights_4 C0 hr hml hlk hs 5000 _ _ _ _ _ h hW hS (lv_sub hl [2, 1, 0] rfl)
def f_X8_kindOf (a0 : Int32) (u : zU) : Int32 :=
  if a0 < (97 : Int32) then (if a0 < (48 : Int32) then ((-1 : Int32)) else (if (57 : Int32) < a0 then ((-1 : Int32)) else ((1 : Int32)))) else (if (122 : Int32) < a0 then (if a0 < (48 : Int32) then ((-1 : Int32)) else (if (57 : Int32) < a0 then ((-1 : Int32)) else ((1 : Int32)))) else ((0 : Int32)))
theorem f_X8_kindOf_e (a0 : Int32) (u : zU) : f_X8_kindOf a0 u = if a0 < (97 : Int32) then (if a0 < (48 : Int32) then ((-1 : Int32)) else (if (57 : Int32) < a0 then ((-1 : Int32)) else ((1 : Int32)))) else (if (122 : Int32) < a0 then (if a0 < (48 : Int32) then ((-1 : Int32)) else (if (57 : Int32) < a0 then ((-1 : Int32)) else ((1 : Int32)))) else ((0 : Int32))) := rfl
set_option maxRecDepth 100000 in
set_option maxHeartbeats 4000000 in
theorem c_X8_kindOf (l : Launch) (D : zD) (A : Nat → Prop) (b : Nat) (g : zG) (a0 : Int32) (u : zU) {v : Int32} (h : f_X8_kindOf a0 u = v) : z_M l D A b g yX8_kindOf cX8_kindOf 1 (some .int) 0 0 [.int a0] u (some (.int v)) u := by
  refine z_enter (by decide) (Nat.le_of_ble_eq_true rfl) ?_
  intro p e s m below meth c ls C0 hr hml hlk hW hS hl
  have hl : lv_has ls 1 [(0, .int a0)] := hl
  have hx := C0.1
  have hb := C0.2.1
  rw [f_X8_kindOf_e] at h
  refine lv_iload_n hx hb dX8_kindOf_0 rfl (lv_at hl 0 rfl) ?_
  refine lv_bipush (v := (97 : Int32)) hx hb dX8_kindOf_1 (by decide) ?_
  refine lv_icmp_lt (tgt := 14) hx hb dX8_kindOf_3 (by decide) (fun hc => ?_) (fun hc => ?_)
  · replace h := z_t h hc
    clear hc
    refine lv_iload_n hx hb dX8_kindOf_14 rfl (lv_at hl 0 rfl) ?_
    refine lv_bipush (v := (48 : Int32)) hx hb dX8_kindOf_15 (by decide) ?_
    refine lv_icmp_lt (tgt := 30) hx hb dX8_kindOf_17 (by decide) (fun hc => ?_) (fun hc => ?_)
    · replace h := z_t h hc
      clear hc
      refine lv_iconst (v := (-1 : Int32)) hx hb dX8_kindOf_30 (by decide) ?_
      cases h
      exact z_iret C0 hr hlk hW hS dX8_kindOf_31
    · replace h := z_f h hc
      clear hc
      refine lv_iload_n hx hb dX8_kindOf_20 rfl (lv_at hl 0 rfl) ?_
      refine lv_bipush (v := (57 : Int32)) hx hb dX8_kindOf_21 (by decide) ?_
      refine lv_icmp_gt (tgt := 30) hx hb dX8_kindOf_23 (by decide) (fun hc => ?_) (fun hc => ?_)
      · replace h := z_t h hc
        clear hc
        refine lv_iconst (v := (-1 : Int32)) hx hb dX8_kindOf_30 (by decide) ?_
        cases h
        exact z_iret C0 hr hlk hW hS dX8_kindOf_31
      · replace h := z_f h hc
        clear hc
        refine lv_iconst (v := (1 : Int32)) hx hb dX8_kindOf_26 (by decide) ?_
        refine lv_goto (tgt := 31) hx hb dX8_kindOf_27 (by decide) ?_
        cases h
        exact z_iret C0 hr hlk hW hS dX8_kindOf_31
  · replace h := z_f h hc
    clear hc
    refine lv_iload_n hx hb dX8_kindOf_6 rfl (lv_at hl 0 rfl) ?_
    refine lv_bipush (v := (122 : Int32)) hx hb dX8_kindOf_7 (by decide) ?_
    refine lv_icmp_gt (tgt := 14) hx hb dX8_kindOf_9 (by decide) (fun hc => ?_) (fun hc => ?_)
    · replace h := z_t h hc
      clear hc
      refine lv_iload_n hx hb dX8_kindOf_14 rfl (lv_at hl 0 rfl) ?_
      refine lv_bipush (v := (48 : Int32)) hx hb dX8_kindOf_15 (by decide) ?_
      refine lv_icmp_lt (tgt := 30) hx hb dX8_kindOf_17 (by decide) (fun hc => ?_) (fun hc => ?_)
      · replace h := z_t h hc
        clear hc
        refine lv_iconst (v := (-1 : Int32)) hx hb dX8_kindOf_30 (by decide) ?_
        cases h
        exact z_iret C0 hr hlk hW hS dX8_kindOf_31
      · replace h := z_f h hc
        clear hc
        refine lv_iload_n hx hb dX8_kindOf_20 rfl (lv_at hl 0 rfl) ?_
        refine lv_bipush (v := (57 : Int32)) hx hb dX8_kindOf_21 (by decide) ?_
        refine lv_icmp_gt (tgt := 30) hx hb dX8_kindOf_23 (by decide) (fun hc => ?_) (fun hc => ?_)
        · replace h := z_t h hc
          clear hc
          refine lv_iconst (v := (-1 : Int32)) hx hb dX8_kindOf_30 (by decide) ?_
          cases h
          exact z_iret C0 hr hlk hW hS dX8_kindOf_31
        · replace h := z_f h hc
          clear hc
          refine lv_iconst (v := (1 : Int32)) hx hb dX8_kindOf_26 (by decide) ?_
          refine lv_goto (tgt := 31) hx hb dX8_kindOf_27 (by decide) ?_
          cases h
          exact z_iret C0 hr hlk hW hS dX8_kindOf_31
    · replace h := z_f h hc
      clear hc
      refine lv_iconst (v := (0 : Int32)) hx hb dX8_kindOf_12 (by decide) ?_
      cases h
      exact z_iret C0 hr hlk hW hS dX8_kindOf_13
def f_X8_atEnd  (u : zU) : Bool :=
  if (u 3 4) < (u 3 3) then (false) else (true)
theorem f_X8_atEnd_e  (u : zU) : f_X8_atEnd u = if (u 3 4) < (u 3 3) then (false) else (true) := rfl
set_option maxRecDepth 100000 in
set_option maxHeartbeats 4000000 in
theorem c_X8_atEnd (l : Launch) (D : zD) (A : Nat → Prop) (b : Nat) (g : zG) (hs : zSt g)  (u : zU) {v : Bool} (h : f_X8_atEnd u = v) : z_M l D A b g yX8_atEnd cX8_atEnd 1 (some .boolean) 0 0 [.ref (b + 3)] u (some (.int (bI v))) u := by
  refine z_enter (by decide) (Nat.le_of_ble_eq_true rfl) ?_
  intro p e s m below meth c ls C0 hr hml hlk hW hS hl
  have hl : lv_has ls 1 [(0, .ref (b + 3))] := hl
  have hx := C0.1
  have hb := C0.2.1
  rw [f_X8_atEnd_e] at h
  refine lv_aload_n hx hb dX8_atEnd_0 rfl (lv_at hl 0 rfl) ?_
  refine z_geti C0 hW fl_X8_22 (zk1 (hs 3 (by decide))) rfl dX8_atEnd_1 ?_
  refine lv_aload_n hx hb dX8_atEnd_4 rfl (lv_at hl 0 rfl) ?_
  refine z_geti C0 hW fl_X8_18 (zk1 (hs 3 (by decide))) rfl dX8_atEnd_5 ?_
  refine lv_icmp_lt (tgt := 15) hx hb dX8_atEnd_8 (by decide) (fun hc => ?_) (fun hc => ?_)
  · replace h := z_t h hc
    clear hc
    refine lv_iconst (v := (0 : Int32)) hx hb dX8_atEnd_15 (by decide) ?_
    cases h
    exact z_zret (x := false) C0 hr hlk hW hS dX8_atEnd_16
  · replace h := z_f h hc
    clear hc
    refine lv_iconst (v := (1 : Int32)) hx hb dX8_atEnd_11 (by decide) ?_
    refine lv_goto (tgt := 16) hx hb dX8_atEnd_12 (by decide) ?_
    cases h
    exact z_zret (x := true) C0 hr hlk hW hS dX8_atEnd_16
def f_X8_takes_37 (a1 : Nat) : Nat → Int32 → Int32 → Int32 → zU → Option (Bool × zU)
  | 0, _, _, _, _ => none
  | n + 1, x2, x3, x4, u =>
    if x3 = 0 then (if x3 = 0 then ((z_b01 x3).bind (fun t3 => some (t3, u))) else (z_let (z_up u 3 4 ((u 3 4) + (1 : Int32))) (fun u4 => (z_b01 x3).bind (fun t5 => some (t5, u4))))) else (if (nI (sLen.getD a1 0)) ≤ x4 then (if x3 = 0 then ((z_b01 x3).bind (fun t6 => some (t6, u))) else (z_let (z_up u 3 4 ((u 3 4) + (1 : Int32))) (fun u7 => (z_b01 x3).bind (fun t8 => some (t8, u7))))) else (if z_in (x2 + x4) 400 = true then (z_let (u 2 (x2 + x4).toNatClampNeg) (fun z9 => if z_in x4 (sLen.getD a1 0) = true then (if z9 = (sCh a1 (x4).toNatClampNeg) then (f_X8_takes_37 a1 n x2 (1 : Int32) (x4 + (1 : Int32)) u) else (f_X8_takes_37 a1 n x2 (0 : Int32) (x4 + (1 : Int32)) u)) else none)) else none))
theorem f_X8_takes_37_s (a1 : Nat) (n : Nat) (x2 : Int32) (x3 : Int32) (x4 : Int32) (u : zU) : f_X8_takes_37 a1 (n + 1) x2 x3 x4 u = if x3 = 0 then (if x3 = 0 then ((z_b01 x3).bind (fun t3 => some (t3, u))) else (z_let (z_up u 3 4 ((u 3 4) + (1 : Int32))) (fun u4 => (z_b01 x3).bind (fun t5 => some (t5, u4))))) else (if (nI (sLen.getD a1 0)) ≤ x4 then (if x3 = 0 then ((z_b01 x3).bind (fun t6 => some (t6, u))) else (z_let (z_up u 3 4 ((u 3 4) + (1 : Int32))) (fun u7 => (z_b01 x3).bind (fun t8 => some (t8, u7))))) else (if z_in (x2 + x4) 400 = true then (z_let (u 2 (x2 + x4).toNatClampNeg) (fun z9 => if z_in x4 (sLen.getD a1 0) = true then (if z9 = (sCh a1 (x4).toNatClampNeg) then (f_X8_takes_37 a1 n x2 (1 : Int32) (x4 + (1 : Int32)) u) else (f_X8_takes_37 a1 n x2 (0 : Int32) (x4 + (1 : Int32)) u)) else none)) else none)) := rfl
def f_X8_takes (a1 : Nat) (u : zU) : Option (Bool × zU) :=
  if z_in (u 3 4) 401 = true then (z_let (u 4 (u 3 4).toNatClampNeg) (fun z1 => if z_in (u 3 4) 401 = true then (z_let (u 5 (u 3 4).toNatClampNeg) (fun z2 => if (z2 - z1) = (nI (sLen.getD a1 0)) then (f_X8_takes_37 a1 5000 z1 (1 : Int32) (0 : Int32) u) else (f_X8_takes_37 a1 5000 z1 (0 : Int32) (0 : Int32) u))) else none)) else none
set_option maxRecDepth 100000 in
set_option maxHeartbeats 4000000 in
theorem l_X8_takes_37 {l : Launch} {D : zD} {A : Nat → Prop} {b : Nat} {p : Program} {e : Env} {s : State} {m : MethodId} {args : Array Value} {below : List Frame} {meth : Method} {c : Code} {g : zG} {v : Bool} {u' : zU} (C0 : z_C p c cX8_takes s m args yX8_takes.cls D A) (hr : meth.sig.returnType = (some .boolean)) (hml : c.maxLocals = 5) (hlk : meth.locks = false) (hs : zSt g) {a1 : Nat} (hs_a1 : a1 < sN) : ∀ (n : Nat) (x2 : Int32) (x3 : Int32) (x4 : Int32) (u : zU) (H : Heap) (locs : List Loc) (ls : Array Slot), f_X8_takes_37 a1 n x2 x3 x4 u = some (v, u') → z_W D A b g u H → va_S A s.heap H locs → lv_has ls 5 [(0, .ref (b + 3)), (1, .ref (sA D a1)), (2, .int x2), (3, .int x3), (4, .int x4)] → W p l e { frames := 4, cells := 0, slots := 0, locals := 85 } s m args below meth c H locs 0 0 (z_End D A b g below args s (some (.int (bI v))) u') (F0 m 37 ls []) := by
  have hx := C0.1
  have hb := C0.2.1
  intro n
  induction n with
  | zero => intro x2 x3 x4 u H locs ls h hW hS hl; cases h
  | succ n ih =>
    intro x2 x3 x4 u H locs ls h hW hS hl
    rw [f_X8_takes_37_s] at h
    refine lv_iload_n hx hb dX8_takes_37 rfl (lv_at hl 3 rfl) ?_
    refine lv_if_eq (tgt := 83) hx hb dX8_takes_38 (by decide) (fun hc => ?_) (fun hc => ?_)
    · replace h := z_t h hc
      clear hc
      refine lv_iload_n hx hb dX8_takes_83 rfl (lv_at hl 3 rfl) ?_
      refine lv_if_eq (tgt := 97) hx hb dX8_takes_84 (by decide) (fun hc => ?_) (fun hc => ?_)
      · replace h := z_t h hc
        clear hc
        refine lv_iload_n hx hb dX8_takes_97 rfl (lv_at hl 3 rfl) ?_
        replace h := z_bd h
        obtain ⟨t3, hq, h⟩ := h
        refine z_as (z_b01_eq hq) ?_
        cases h
        exact z_zret C0 hr hlk hW hS dX8_takes_98
      · replace h := z_f h hc
        clear hc
        refine lv_aload_n hx hb dX8_takes_87 rfl (lv_at hl 0 rfl) ?_
        refine lv_dup hx hb dX8_takes_88 rfl ?_
        refine z_geti C0 hW fl_X8_22 (zk1 (hs 3 (by decide))) rfl dX8_takes_89 ?_
        refine lv_iconst (v := (1 : Int32)) hx hb dX8_takes_92 (by decide) ?_
        refine lv_iadd hx hb dX8_takes_93 ?_
        refine z_puti C0 hW hS fl_X8_22 (zk1 (hs 3 (by decide))) rfl rfl rfl dX8_takes_94 (fun H locs u4 e1 hW hS => ?_)
        replace h := z_ly h e1
        clear e1
        refine lv_iload_n hx hb dX8_takes_97 rfl (lv_at hl 3 rfl) ?_
        replace h := z_bd h
        obtain ⟨t5, hq, h⟩ := h
        refine z_as (z_b01_eq hq) ?_
        cases h
        exact z_zret C0 hr hlk hW hS dX8_takes_98
    · replace h := z_f h hc
      clear hc
      refine lv_iload hx hb dX8_takes_41 (lv_at hl 4 rfl) ?_
      refine lv_aload_n hx hb dX8_takes_43 rfl (lv_at hl 1 rfl) ?_
      refine z_cji (As := []) C0 hml hl.1 hW hS hs_a1 (c_J0_length l D A b g u hs_a1) mj_X8_44 ⟨Nat.le_of_ble_eq_true rfl, Nat.le_of_ble_eq_true rfl⟩ rfl rfl (Nat.le_of_ble_eq_true rfl) dX8_takes_44 (fun H locs hW hS => ?_)
      refine lv_icmp_ge (tgt := 83) hx hb dX8_takes_47 (by decide) (fun hc => ?_) (fun hc => ?_)
      · replace h := z_t h hc
        clear hc
        refine lv_iload_n hx hb dX8_takes_83 rfl (lv_at hl 3 rfl) ?_
        refine lv_if_eq (tgt := 97) hx hb dX8_takes_84 (by decide) (fun hc => ?_) (fun hc => ?_)
        · replace h := z_t h hc
          clear hc
          refine lv_iload_n hx hb dX8_takes_97 rfl (lv_at hl 3 rfl) ?_
          replace h := z_bd h
          obtain ⟨t6, hq, h⟩ := h
          refine z_as (z_b01_eq hq) ?_
          cases h
          exact z_zret C0 hr hlk hW hS dX8_takes_98
        · replace h := z_f h hc
          clear hc
          refine lv_aload_n hx hb dX8_takes_87 rfl (lv_at hl 0 rfl) ?_
          refine lv_dup hx hb dX8_takes_88 rfl ?_
          refine z_geti C0 hW fl_X8_22 (zk1 (hs 3 (by decide))) rfl dX8_takes_89 ?_
          refine lv_iconst (v := (1 : Int32)) hx hb dX8_takes_92 (by decide) ?_
          refine lv_iadd hx hb dX8_takes_93 ?_
          refine z_puti C0 hW hS fl_X8_22 (zk1 (hs 3 (by decide))) rfl rfl rfl dX8_takes_94 (fun H locs u7 e1 hW hS => ?_)
          replace h := z_ly h e1
          clear e1
          refine lv_iload_n hx hb dX8_takes_97 rfl (lv_at hl 3 rfl) ?_
          replace h := z_bd h
          obtain ⟨t8, hq, h⟩ := h
          refine z_as (z_b01_eq hq) ?_
          cases h
          exact z_zret C0 hr hlk hW hS dX8_takes_98
      · replace h := z_f h hc
        clear hc
        refine lv_aload_n hx hb dX8_takes_50 rfl (lv_at hl 0 rfl) ?_
        refine z_getr (o := 1) C0 hW fl_X8_28 (zk1 (hs 3 (by decide))) rfl (zk3 (hs 3 (by decide)) 0) dX8_takes_51 ?_
        refine z_getr (o := 2) C0 hW fl_X8_37 (zk1 (hs 1 (by decide))) rfl (zk3 (hs 1 (by decide)) 0) dX8_takes_54 ?_
        refine lv_iload_n hx hb dX8_takes_57 rfl (lv_at hl 2 rfl) ?_
        refine lv_iload hx hb dX8_takes_58 (lv_at hl 4 rfl) ?_
        refine lv_iadd hx hb dX8_takes_60 ?_
        replace h := z_if h
        obtain ⟨hin, h⟩ := h
        refine z_iald (n := 400) C0 hW (zk1 (hs 2 (by decide))) (zk2 (hs 2 (by decide))) hin rfl dX8_takes_61 ?_
        clear hin
        refine lv_topi (fun z9 e1 => ?_)
        replace h := z_ly h e1
        clear e1
        refine lv_aload_n hx hb dX8_takes_62 rfl (lv_at hl 1 rfl) ?_
        refine lv_iload hx hb dX8_takes_63 (lv_at hl 4 rfl) ?_
        replace h := z_if h
        obtain ⟨hin, h⟩ := h
        refine z_cji (As := [.int x4]) C0 hml hl.1 hW hS hs_a1 (c_J0_charAt l D A b g u hs_a1 hin (z_sl _ hs_a1)) mj_X8_49 ⟨Nat.le_of_ble_eq_true rfl, Nat.le_of_ble_eq_true rfl⟩ rfl rfl (Nat.le_of_ble_eq_true rfl) dX8_takes_65 (fun H locs hW hS => ?_)
        clear hin
        refine lv_icmp_ne (tgt := 75) hx hb dX8_takes_68 (by decide) (fun hc => ?_) (fun hc => ?_)
        · replace h := z_f h hc
          clear hc
          refine lv_iconst (v := (0 : Int32)) hx hb dX8_takes_75 (by decide) ?_
          refine lv_istore_n (lv' := [(3, .int (0 : Int32)), (0, .ref (b + 3)), (1, .ref (sA D a1)), (2, .int x2), (4, .int x4)]) hx hb dX8_takes_76 rfl hl (by decide) rfl (fun ls hl => ?_)
          refine lv_iinc (v := x4 + (1 : Int32)) (lv' := [(4, .int (x4 + (1 : Int32))), (3, .int (0 : Int32)), (0, .ref (b + 3)), (1, .ref (sA D a1)), (2, .int x2)]) hx hb dX8_takes_77 hl (k := 4) rfl rfl (by decide) rfl (fun ls hl => ?_)
          refine lv_goto (tgt := 37) hx hb dX8_takes_80 (by decide) ?_
          exact ih _ _ _ _ _ _ _ h hW hS (lv_sub hl [2, 3, 4, 1, 0] rfl)
        · replace h := z_t h hc
          clear hc
          refine lv_iconst (v := (1 : Int32)) hx hb dX8_takes_71 (by decide) ?_
          refine lv_goto (tgt := 76) hx hb dX8_takes_72 (by decide) ?_
          refine lv_istore_n (lv' := [(3, .int (1 : Int32)), (0, .ref (b + 3)), (1, .ref (sA D a1)), (2, .int x2), (4, .int x4)]) hx hb dX8_takes_76 rfl hl (by decide) rfl (fun ls hl => ?_)
          refine lv_iinc (v := x4 + (1 : Int32)) (lv' := [(4, .int (x4 + (1 : Int32))), (3, .int (1 : Int32)), (0, .ref (b + 3)), (1, .ref (sA D a1)), (2, .int x2)]) hx hb dX8_takes_77 hl (k := 4) rfl rfl (by decide) rfl (fun ls hl => ?_)
          refine lv_goto (tgt := 37) hx hb dX8_takes_80 (by decide) ?_
          exact ih _ _ _ _ _ _ _ h hW hS (lv_sub hl [2, 3, 4, 1, 0] rfl)
theorem f_X8_takes_e (a1 : Nat) (u : zU) : f_X8_takes a1 u = if z_in (u 3 4) 401 = true then (z_let (u 4 (u 3 4).toNatClampNeg) (fun z1 => if z_in (u 3 4) 401 = true then (z_let (u 5 (u 3 4).toNatClampNeg) (fun z2 => if (z2 - z1) = (nI (sLen.getD a1 0)) then (f_X8_takes_37 a1 5000 z1 (1 : Int32) (0 : Int32) u) else (f_X8_takes_37 a1 5000 z1 (0 : Int32) (0 : Int32) u))) else none)) else none := rfl
set_option maxRecDepth 100000 in
set_option maxHeartbeats 4000000 in
theorem c_X8_takes (l : Launch) (D : zD) (A : Nat → Prop) (b : Nat) (g : zG) (hs : zSt g) (a1 : Nat) (hs_a1 : a1 < sN) (u : zU) {v : Bool} {u' : zU} (h : f_X8_takes a1 u = some (v, u')) : z_M l D A b g yX8_takes cX8_takes 5 (some .boolean) 4 85 [.ref (b + 3), .ref (sA D a1)] u (some (.int (bI v))) u' := by
  refine z_enter (by decide) (Nat.le_of_ble_eq_true rfl) ?_
  intro p e s m below meth c ls C0 hr hml hlk hW hS hl
  have hl : lv_has ls 5 [(0, .ref (b + 3)), (1, .ref (sA D a1))] := hl
  have hx := C0.1
  have hb := C0.2.1
  rw [f_X8_takes_e] at h
  refine lv_aload_n hx hb dX8_takes_0 rfl (lv_at hl 0 rfl) ?_
  refine z_getr (o := 4) C0 hW fl_X8_9 (zk1 (hs 3 (by decide))) rfl (zk3 (hs 3 (by decide)) 1) dX8_takes_1 ?_
  refine lv_aload_n hx hb dX8_takes_4 rfl (lv_at hl 0 rfl) ?_
  refine z_geti C0 hW fl_X8_22 (zk1 (hs 3 (by decide))) rfl dX8_takes_5 ?_
  replace h := z_if h
  obtain ⟨hin, h⟩ := h
  refine z_iald (n := 401) C0 hW (zk1 (hs 4 (by decide))) (zk2 (hs 4 (by decide))) hin rfl dX8_takes_8 ?_
  clear hin
  refine lv_topi (fun z1 e1 => ?_)
  replace h := z_ly h e1
  clear e1
  refine lv_istore_n (lv' := [(2, .int z1), (0, .ref (b + 3)), (1, .ref (sA D a1))]) hx hb dX8_takes_9 rfl hl (by decide) rfl (fun ls hl => ?_)
  refine lv_aload_n hx hb dX8_takes_10 rfl (lv_at hl 1 rfl) ?_
  refine z_getr (o := 5) C0 hW fl_X8_15 (zk1 (hs 3 (by decide))) rfl (zk3 (hs 3 (by decide)) 2) dX8_takes_11 ?_
  refine lv_aload_n hx hb dX8_takes_14 rfl (lv_at hl 1 rfl) ?_
  refine z_geti C0 hW fl_X8_22 (zk1 (hs 3 (by decide))) rfl dX8_takes_15 ?_
  replace h := z_if h
  obtain ⟨hin, h⟩ := h
  refine z_iald (n := 401) C0 hW (zk1 (hs 5 (by decide))) (zk2 (hs 5 (by decide))) hin rfl dX8_takes_18 ?_
  clear hin
  refine lv_topi (fun z2 e1 => ?_)
  replace h := z_ly h e1
  clear e1
  refine lv_iload_n hx hb dX8_takes_19 rfl (lv_at hl 0 rfl) ?_
  refine lv_isub hx hb dX8_takes_20 ?_
  refine lv_aload_n hx hb dX8_takes_21 rfl (lv_at hl 2 rfl) ?_
  refine z_cji (As := []) C0 hml hl.1 hW hS hs_a1 (c_J0_length l D A b g u hs_a1) mj_X8_44 ⟨Nat.le_of_ble_eq_true rfl, Nat.le_of_ble_eq_true rfl⟩ rfl rfl (Nat.le_of_ble_eq_true rfl) dX8_takes_22 (fun H locs hW hS => ?_)
  refine lv_icmp_ne (tgt := 32) hx hb dX8_takes_25 (by decide) (fun hc => ?_) (fun hc => ?_)
  · replace h := z_f h hc
    clear hc
    refine lv_iconst (v := (0 : Int32)) hx hb dX8_takes_32 (by decide) ?_
    refine lv_istore_n (lv' := [(3, .int (0 : Int32)), (2, .int z1), (0, .ref (b + 3)), (1, .ref (sA D a1))]) hx hb dX8_takes_33 rfl hl (by decide) rfl (fun ls hl => ?_)
    refine lv_iconst (v := (0 : Int32)) hx hb dX8_takes_34 (by decide) ?_
    refine lv_istore (lv' := [(4, .int (0 : Int32)), (3, .int (0 : Int32)), (2, .int z1), (0, .ref (b + 3)), (1, .ref (sA D a1))]) hx hb dX8_takes_35 hl (by decide) rfl (fun ls hl => ?_)
    exact l_X8_takes_37 C0 hr hml hlk hs hs_a1 5000 _ _ _ _ _ _ _ h hW hS (lv_sub hl [3, 4, 2, 1, 0] rfl)
  · replace h := z_t h hc
    clear hc
    refine lv_iconst (v := (1 : Int32)) hx hb dX8_takes_28 (by decide) ?_
    refine lv_goto (tgt := 33) hx hb dX8_takes_29 (by decide) ?_
    refine lv_istore_n (lv' := [(3, .int (1 : Int32)), (2, .int z1), (0, .ref (b + 3)), (1, .ref (sA D a1))]) hx hb dX8_takes_33 rfl hl (by decide) rfl (fun ls hl => ?_)
    refine lv_iconst (v := (0 : Int32)) hx hb dX8_takes_34 (by decide) ?_
    refine lv_istore (lv' := [(4, .int (0 : Int32)), (3, .int (1 : Int32)), (2, .int z1), (0, .ref (b + 3)), (1, .ref (sA D a1))]) hx hb dX8_takes_35 hl (by decide) rfl (fun ls hl => ?_)
    exact l_X8_takes_37 C0 hr hml hlk hs hs_a1 5000 _ _ _ _ _ _ _ h hW hS (lv_sub hl [3, 4, 2, 1, 0] rfl)
def f_X8_value_44 : Nat → Int32 → Int32 → zU → Option (Int32)
  | 0, _, _, _ => none
  | n + 1, x2, x3, u =>
    if z_in (u 3 4) 401 = true then (z_let (u 5 (u 3 4).toNatClampNeg) (fun z5 => if z5 ≤ x3 then (some x2) else (if z_in x3 400 = true then (z_let (u 2 (x3).toNatClampNeg) (fun z6 => z_let (z6 - (48 : Int32)) (fun z7 => if z7 < 0 then (some (-1 : Int32)) else (if z7 ≤ (9 : Int32) then (z_let ((x2 * (10 : Int32)) + z7) (fun z8 => f_X8_value_44 n z8 (x3 + (1 : Int32)) u)) else (some (-1 : Int32)))))) else none))) else none
theorem f_X8_value_44_s (n : Nat) (x2 : Int32) (x3 : Int32) (u : zU) : f_X8_value_44 (n + 1) x2 x3 u = if z_in (u 3 4) 401 = true then (z_let (u 5 (u 3 4).toNatClampNeg) (fun z5 => if z5 ≤ x3 then (some x2) else (if z_in x3 400 = true then (z_let (u 2 (x3).toNatClampNeg) (fun z6 => z_let (z6 - (48 : Int32)) (fun z7 => if z7 < 0 then (some (-1 : Int32)) else (if z7 ≤ (9 : Int32) then (z_let ((x2 * (10 : Int32)) + z7) (fun z8 => f_X8_value_44 n z8 (x3 + (1 : Int32)) u)) else (some (-1 : Int32)))))) else none))) else none := rfl
def f_X8_value  (u : zU) : Option (Int32) :=
  if z_in (u 3 4) 401 = true then (z_let (u 5 (u 3 4).toNatClampNeg) (fun z1 => if z_in (u 3 4) 401 = true then (z_let (u 4 (u 3 4).toNatClampNeg) (fun z2 => z_let (z1 - z2) (fun z3 => if z3 < (1 : Int32) then (some (-1 : Int32)) else (if z3 ≤ (3 : Int32) then (if z_in (u 3 4) 401 = true then (z_let (u 4 (u 3 4).toNatClampNeg) (fun z4 => f_X8_value_44 5000 (0 : Int32) z4 u)) else none) else (some (-1 : Int32)))))) else none)) else none
set_option maxRecDepth 100000 in
set_option maxHeartbeats 4000000 in
theorem l_X8_value_44 {l : Launch} {D : zD} {A : Nat → Prop} {b : Nat} {p : Program} {e : Env} {s : State} {m : MethodId} {args : Array Value} {below : List Frame} {meth : Method} {c : Code} {g : zG} {v : Int32} {u : zU} (C0 : z_C p c cX8_value s m args yX8_value.cls D A) (hr : meth.sig.returnType = (some .int)) (hml : c.maxLocals = 5) (hlk : meth.locks = false) (hs : zSt g) : ∀ (n : Nat) (x2 : Int32) (x3 : Int32) (H : Heap) (locs : List Loc) (ls : Array Slot), f_X8_value_44 n x2 x3 u = some v → z_W D A b g u H → va_S A s.heap H locs → lv_has ls 5 [(0, .ref (b + 3)), (2, .int x2), (3, .int x3)] → W p l e { frames := 0, cells := 0, slots := 0, locals := 0 } s m args below meth c H locs 0 0 (z_End D A b g below args s (some (.int v)) u) (F0 m 44 ls []) := by
  have hx := C0.1
  have hb := C0.2.1
  intro n
  induction n with
  | zero => intro x2 x3 H locs ls h hW hS hl; cases h
  | succ n ih =>
    intro x2 x3 H locs ls h hW hS hl
    rw [f_X8_value_44_s] at h
    refine lv_iload_n hx hb dX8_value_44 rfl (lv_at hl 2 rfl) ?_
    refine lv_aload_n hx hb dX8_value_45 rfl (lv_at hl 0 rfl) ?_
    refine z_getr (o := 5) C0 hW fl_X8_15 (zk1 (hs 3 (by decide))) rfl (zk3 (hs 3 (by decide)) 2) dX8_value_46 ?_
    refine lv_aload_n hx hb dX8_value_49 rfl (lv_at hl 0 rfl) ?_
    refine z_geti C0 hW fl_X8_22 (zk1 (hs 3 (by decide))) rfl dX8_value_50 ?_
    replace h := z_if h
    obtain ⟨hin, h⟩ := h
    refine z_iald (n := 401) C0 hW (zk1 (hs 5 (by decide))) (zk2 (hs 5 (by decide))) hin rfl dX8_value_53 ?_
    clear hin
    refine lv_topi (fun z5 e1 => ?_)
    replace h := z_ly h e1
    clear e1
    refine lv_icmp_ge (tgt := 99) hx hb dX8_value_54 (by decide) (fun hc => ?_) (fun hc => ?_)
    · replace h := z_t h hc
      clear hc
      refine lv_iload_n hx hb dX8_value_99 rfl (lv_at hl 1 rfl) ?_
      cases h
      exact z_iret C0 hr hlk hW hS dX8_value_100
    · replace h := z_f h hc
      clear hc
      refine lv_aload_n hx hb dX8_value_57 rfl (lv_at hl 0 rfl) ?_
      refine z_getr (o := 1) C0 hW fl_X8_28 (zk1 (hs 3 (by decide))) rfl (zk3 (hs 3 (by decide)) 0) dX8_value_58 ?_
      refine z_getr (o := 2) C0 hW fl_X8_37 (zk1 (hs 1 (by decide))) rfl (zk3 (hs 1 (by decide)) 0) dX8_value_61 ?_
      refine lv_iload_n hx hb dX8_value_64 rfl (lv_at hl 2 rfl) ?_
      replace h := z_if h
      obtain ⟨hin, h⟩ := h
      refine z_iald (n := 400) C0 hW (zk1 (hs 2 (by decide))) (zk2 (hs 2 (by decide))) hin rfl dX8_value_65 ?_
      clear hin
      refine lv_topi (fun z6 e1 => ?_)
      replace h := z_ly h e1
      clear e1
      refine lv_bipush (v := (48 : Int32)) hx hb dX8_value_66 (by decide) ?_
      refine lv_isub hx hb dX8_value_68 ?_
      refine lv_topi (fun z7 e1 => ?_)
      replace h := z_ly h e1
      clear e1
      refine lv_istore (lv' := [(4, .int z7), (0, .ref (b + 3)), (2, .int x2), (3, .int x3)]) hx hb dX8_value_69 hl (by decide) rfl (fun ls hl => ?_)
      refine lv_iload hx hb dX8_value_71 (lv_at hl 0 rfl) ?_
      refine lv_if_lt (tgt := 83) hx hb dX8_value_73 (by decide) (fun hc => ?_) (fun hc => ?_)
      · replace h := z_t h hc
        clear hc
        refine lv_iconst (v := (-1 : Int32)) hx hb dX8_value_83 (by decide) ?_
        cases h
        exact z_iret C0 hr hlk hW hS dX8_value_84
      · replace h := z_f h hc
        clear hc
        refine lv_iload hx hb dX8_value_76 (lv_at hl 0 rfl) ?_
        refine lv_bipush (v := (9 : Int32)) hx hb dX8_value_78 (by decide) ?_
        refine lv_icmp_le (tgt := 85) hx hb dX8_value_80 (by decide) (fun hc => ?_) (fun hc => ?_)
        · replace h := z_t h hc
          clear hc
          refine lv_iload_n hx hb dX8_value_85 rfl (lv_at hl 2 rfl) ?_
          refine lv_bipush (v := (10 : Int32)) hx hb dX8_value_86 (by decide) ?_
          refine lv_imul hx hb dX8_value_88 ?_
          refine lv_iload hx hb dX8_value_89 (lv_at hl 0 rfl) ?_
          refine lv_iadd hx hb dX8_value_91 ?_
          refine lv_topi (fun z8 e1 => ?_)
          replace h := z_ly h e1
          clear e1
          refine lv_istore_n (lv' := [(2, .int z8), (4, .int z7), (0, .ref (b + 3)), (3, .int x3)]) hx hb dX8_value_92 rfl hl (by decide) rfl (fun ls hl => ?_)
          refine lv_iinc (v := x3 + (1 : Int32)) (lv' := [(3, .int (x3 + (1 : Int32))), (2, .int z8), (4, .int z7), (0, .ref (b + 3))]) hx hb dX8_value_93 hl (k := 3) rfl rfl (by decide) rfl (fun ls hl => ?_)
          refine lv_goto (tgt := 44) hx hb dX8_value_96 (by decide) ?_
          exact ih _ _ _ _ _ h hW hS (lv_sub hl [3, 1, 0] rfl)
        · replace h := z_f h hc
          clear hc
          refine lv_iconst (v := (-1 : Int32)) hx hb dX8_value_83 (by decide) ?_
          cases h
          exact z_iret C0 hr hlk hW hS dX8_value_84
theorem f_X8_value_e  (u : zU) : f_X8_value u = if z_in (u 3 4) 401 = true then (z_let (u 5 (u 3 4).toNatClampNeg) (fun z1 => if z_in (u 3 4) 401 = true then (z_let (u 4 (u 3 4).toNatClampNeg) (fun z2 => z_let (z1 - z2) (fun z3 => if z3 < (1 : Int32) then (some (-1 : Int32)) else (if z3 ≤ (3 : Int32) then (if z_in (u 3 4) 401 = true then (z_let (u 4 (u 3 4).toNatClampNeg) (fun z4 => f_X8_value_44 5000 (0 : Int32) z4 u)) else none) else (some (-1 : Int32)))))) else none)) else none := rfl
set_option maxRecDepth 100000 in
set_option maxHeartbeats 4000000 in
theorem c_X8_value (l : Launch) (D : zD) (A : Nat → Prop) (b : Nat) (g : zG) (hs : zSt g)  (u : zU) {v : Int32} (h : f_X8_value u = some v) : z_M l D A b g yX8_value cX8_value 5 (some .int) 0 0 [.ref (b + 3)] u (some (.int v)) u := by
  refine z_enter (by decide) (Nat.le_of_ble_eq_true rfl) ?_
  intro p e s m below meth c ls C0 hr hml hlk hW hS hl
  have hl : lv_has ls 5 [(0, .ref (b + 3))] := hl
  have hx := C0.1
  have hb := C0.2.1
  rw [f_X8_value_e] at h
  refine lv_aload_n hx hb dX8_value_0 rfl (lv_at hl 0 rfl) ?_
  refine z_getr (o := 5) C0 hW fl_X8_15 (zk1 (hs 3 (by decide))) rfl (zk3 (hs 3 (by decide)) 2) dX8_value_1 ?_
  refine lv_aload_n hx hb dX8_value_4 rfl (lv_at hl 0 rfl) ?_
  refine z_geti C0 hW fl_X8_22 (zk1 (hs 3 (by decide))) rfl dX8_value_5 ?_
  replace h := z_if h
  obtain ⟨hin, h⟩ := h
  refine z_iald (n := 401) C0 hW (zk1 (hs 5 (by decide))) (zk2 (hs 5 (by decide))) hin rfl dX8_value_8 ?_
  clear hin
  refine lv_topi (fun z1 e1 => ?_)
  replace h := z_ly h e1
  clear e1
  refine lv_aload_n hx hb dX8_value_9 rfl (lv_at hl 0 rfl) ?_
  refine z_getr (o := 4) C0 hW fl_X8_9 (zk1 (hs 3 (by decide))) rfl (zk3 (hs 3 (by decide)) 1) dX8_value_10 ?_
  refine lv_aload_n hx hb dX8_value_13 rfl (lv_at hl 0 rfl) ?_
  refine z_geti C0 hW fl_X8_22 (zk1 (hs 3 (by decide))) rfl dX8_value_14 ?_
  replace h := z_if h
  obtain ⟨hin, h⟩ := h
  refine z_iald (n := 401) C0 hW (zk1 (hs 4 (by decide))) (zk2 (hs 4 (by decide))) hin rfl dX8_value_17 ?_
  clear hin
  refine lv_topi (fun z2 e1 => ?_)
  replace h := z_ly h e1
  clear e1
  refine lv_isub hx hb dX8_value_18 ?_
  refine lv_topi (fun z3 e1 => ?_)
  replace h := z_ly h e1
  clear e1
  refine lv_istore_n (lv' := [(1, .int z3), (0, .ref (b + 3))]) hx hb dX8_value_19 rfl hl (by decide) rfl (fun ls hl => ?_)
  refine lv_iload_n hx hb dX8_value_20 rfl (lv_at hl 0 rfl) ?_
  refine lv_iconst (v := (1 : Int32)) hx hb dX8_value_21 (by decide) ?_
  refine lv_icmp_lt (tgt := 30) hx hb dX8_value_22 (by decide) (fun hc => ?_) (fun hc => ?_)
  · replace h := z_t h hc
    clear hc
    refine lv_iconst (v := (-1 : Int32)) hx hb dX8_value_30 (by decide) ?_
    cases h
    exact z_iret C0 hr hlk hW hS dX8_value_31
  · replace h := z_f h hc
    clear hc
    refine lv_iload_n hx hb dX8_value_25 rfl (lv_at hl 0 rfl) ?_
    refine lv_iconst (v := (3 : Int32)) hx hb dX8_value_26 (by decide) ?_
    refine lv_icmp_le (tgt := 32) hx hb dX8_value_27 (by decide) (fun hc => ?_) (fun hc => ?_)
    · replace h := z_t h hc
      clear hc
      refine lv_iconst (v := (0 : Int32)) hx hb dX8_value_32 (by decide) ?_
      refine lv_istore_n (lv' := [(2, .int (0 : Int32)), (1, .int z3), (0, .ref (b + 3))]) hx hb dX8_value_33 rfl hl (by decide) rfl (fun ls hl => ?_)
      refine lv_aload_n hx hb dX8_value_34 rfl (lv_at hl 2 rfl) ?_
      refine z_getr (o := 4) C0 hW fl_X8_9 (zk1 (hs 3 (by decide))) rfl (zk3 (hs 3 (by decide)) 1) dX8_value_35 ?_
      refine lv_aload_n hx hb dX8_value_38 rfl (lv_at hl 2 rfl) ?_
      refine z_geti C0 hW fl_X8_22 (zk1 (hs 3 (by decide))) rfl dX8_value_39 ?_
      replace h := z_if h
      obtain ⟨hin, h⟩ := h
      refine z_iald (n := 401) C0 hW (zk1 (hs 4 (by decide))) (zk2 (hs 4 (by decide))) hin rfl dX8_value_42 ?_
      clear hin
      refine lv_topi (fun z4 e1 => ?_)
      replace h := z_ly h e1
      clear e1
      refine lv_istore_n (lv' := [(3, .int z4), (2, .int (0 : Int32)), (1, .int z3), (0, .ref (b + 3))]) hx hb dX8_value_43 rfl hl (by decide) rfl (fun ls hl => ?_)
      exact l_X8_value_44 C0 hr hml hlk hs 5000 _ _ _ _ _ h hW hS (lv_sub hl [3, 1, 0] rfl)
    · replace h := z_f h hc
      clear hc
      refine lv_iconst (v := (-1 : Int32)) hx hb dX8_value_30 (by decide) ?_
      cases h
      exact z_iret C0 hr hlk hW hS dX8_value_31
def f_X8_pass  (u : zU) : zU :=
  if (u 3 3) ≤ (u 3 4) then (u) else (z_let (z_up u 3 4 ((u 3 4) + (1 : Int32))) (fun u1 => u1))
theorem f_X8_pass_e  (u : zU) : f_X8_pass u = if (u 3 3) ≤ (u 3 4) then (u) else (z_let (z_up u 3 4 ((u 3 4) + (1 : Int32))) (fun u1 => u1)) := rfl
set_option maxRecDepth 100000 in
set_option maxHeartbeats 4000000 in
theorem c_X8_pass (l : Launch) (D : zD) (A : Nat → Prop) (b : Nat) (g : zG) (hs : zSt g)  (u : zU) {u' : zU} (h : f_X8_pass u = u') : z_M l D A b g yX8_pass cX8_pass 1 none 0 0 [.ref (b + 3)] u none u' := by
  refine z_enter (by decide) (Nat.le_of_ble_eq_true rfl) ?_
  intro p e s m below meth c ls C0 hr hml hlk hW hS hl
  have hl : lv_has ls 1 [(0, .ref (b + 3))] := hl
  have hx := C0.1
  have hb := C0.2.1
  rw [f_X8_pass_e] at h
  refine lv_aload_n hx hb dX8_pass_0 rfl (lv_at hl 0 rfl) ?_
  refine z_geti C0 hW fl_X8_22 (zk1 (hs 3 (by decide))) rfl dX8_pass_1 ?_
  refine lv_aload_n hx hb dX8_pass_4 rfl (lv_at hl 0 rfl) ?_
  refine z_geti C0 hW fl_X8_18 (zk1 (hs 3 (by decide))) rfl dX8_pass_5 ?_
  refine lv_icmp_ge (tgt := 21) hx hb dX8_pass_8 (by decide) (fun hc => ?_) (fun hc => ?_)
  · replace h := z_t h hc
    clear hc
    cases h
    exact z_vret C0 hr hlk hW hS dX8_pass_21
  · replace h := z_f h hc
    clear hc
    refine lv_aload_n hx hb dX8_pass_11 rfl (lv_at hl 0 rfl) ?_
    refine lv_dup hx hb dX8_pass_12 rfl ?_
    refine z_geti C0 hW fl_X8_22 (zk1 (hs 3 (by decide))) rfl dX8_pass_13 ?_
    refine lv_iconst (v := (1 : Int32)) hx hb dX8_pass_16 (by decide) ?_
    refine lv_iadd hx hb dX8_pass_17 ?_
    refine z_puti C0 hW hS fl_X8_22 (zk1 (hs 3 (by decide))) rfl rfl rfl dX8_pass_18 (fun H locs u1 e1 hW hS => ?_)
    replace h := z_ly h e1
    clear e1
    cases h
    exact z_vret C0 hr hlk hW hS dX8_pass_21
def f_X8_refuse  (u : zU) : Option (zU) :=
  if (u 3 5) = (-1 : Int32) then (if z_in (u 3 4) 401 = true then (z_let (u 4 (u 3 4).toNatClampNeg) (fun z2 => z_let (z_up u 3 5 z2) (fun u3 => z_let (z_up u3 3 4 (u3 3 3)) (fun u4 => some u4)))) else none) else (z_let (z_up u 3 4 (u 3 3)) (fun u1 => some u1))
theorem f_X8_refuse_e  (u : zU) : f_X8_refuse u = if (u 3 5) = (-1 : Int32) then (if z_in (u 3 4) 401 = true then (z_let (u 4 (u 3 4).toNatClampNeg) (fun z2 => z_let (z_up u 3 5 z2) (fun u3 => z_let (z_up u3 3 4 (u3 3 3)) (fun u4 => some u4)))) else none) else (z_let (z_up u 3 4 (u 3 3)) (fun u1 => some u1)) := rfl
set_option maxRecDepth 100000 in
set_option maxHeartbeats 4000000 in
theorem c_X8_refuse (l : Launch) (D : zD) (A : Nat → Prop) (b : Nat) (g : zG) (hs : zSt g)  (u : zU) {u' : zU} (h : f_X8_refuse u = some u') : z_M l D A b g yX8_refuse cX8_refuse 1 none 0 0 [.ref (b + 3)] u none u' := by
  refine z_enter (by decide) (Nat.le_of_ble_eq_true rfl) ?_
  intro p e s m below meth c ls C0 hr hml hlk hW hS hl
  have hl : lv_has ls 1 [(0, .ref (b + 3))] := hl
  have hx := C0.1
  have hb := C0.2.1
  rw [f_X8_refuse_e] at h
  refine lv_aload_n hx hb dX8_refuse_0 rfl (lv_at hl 0 rfl) ?_
  refine z_geti C0 hW fl_X8_25 (zk1 (hs 3 (by decide))) rfl dX8_refuse_1 ?_
  refine lv_iconst (v := (-1 : Int32)) hx hb dX8_refuse_4 (by decide) ?_
  refine lv_icmp_ne (tgt := 21) hx hb dX8_refuse_5 (by decide) (fun hc => ?_) (fun hc => ?_)
  · replace h := z_f h hc
    clear hc
    refine lv_aload_n hx hb dX8_refuse_21 rfl (lv_at hl 0 rfl) ?_
    refine lv_aload_n hx hb dX8_refuse_22 rfl (lv_at hl 0 rfl) ?_
    refine z_geti C0 hW fl_X8_18 (zk1 (hs 3 (by decide))) rfl dX8_refuse_23 ?_
    refine z_puti C0 hW hS fl_X8_22 (zk1 (hs 3 (by decide))) rfl rfl rfl dX8_refuse_26 (fun H locs u1 e1 hW hS => ?_)
    replace h := z_ly h e1
    clear e1
    cases h
    exact z_vret C0 hr hlk hW hS dX8_refuse_29
  · replace h := z_t h hc
    clear hc
    refine lv_aload_n hx hb dX8_refuse_8 rfl (lv_at hl 0 rfl) ?_
    refine lv_aload_n hx hb dX8_refuse_9 rfl (lv_at hl 0 rfl) ?_
    refine z_getr (o := 4) C0 hW fl_X8_9 (zk1 (hs 3 (by decide))) rfl (zk3 (hs 3 (by decide)) 1) dX8_refuse_10 ?_
    refine lv_aload_n hx hb dX8_refuse_13 rfl (lv_at hl 0 rfl) ?_
    refine z_geti C0 hW fl_X8_22 (zk1 (hs 3 (by decide))) rfl dX8_refuse_14 ?_
    replace h := z_if h
    obtain ⟨hin, h⟩ := h
    refine z_iald (n := 401) C0 hW (zk1 (hs 4 (by decide))) (zk2 (hs 4 (by decide))) hin rfl dX8_refuse_17 ?_
    clear hin
    refine lv_topi (fun z2 e1 => ?_)
    replace h := z_ly h e1
    clear e1
    refine z_puti C0 hW hS fl_X8_25 (zk1 (hs 3 (by decide))) rfl rfl rfl dX8_refuse_18 (fun H locs u3 e1 hW hS => ?_)
    replace h := z_ly h e1
    clear e1
    refine lv_aload_n hx hb dX8_refuse_21 rfl (lv_at hl 0 rfl) ?_
    refine lv_aload_n hx hb dX8_refuse_22 rfl (lv_at hl 0 rfl) ?_
    refine z_geti C0 hW fl_X8_18 (zk1 (hs 3 (by decide))) rfl dX8_refuse_23 ?_
    refine z_puti C0 hW hS fl_X8_22 (zk1 (hs 3 (by decide))) rfl rfl rfl dX8_refuse_26 (fun H locs u4 e1 hW hS => ?_)
    replace h := z_ly h e1
    clear e1
    cases h
    exact z_vret C0 hr hlk hW hS dX8_refuse_29
def f_X4_worth (L : Nat → Nat) (fa : Nat) (a1 : Int32) (u : zU) : Option (Int32) :=
  if z_in a1 (L 9) = true then (z_let (u (L 5) (a1).toNatClampNeg) (fun z1 => if z_in a1 (L 9) = true then (z_let (u (L 4) (a1).toNatClampNeg) (fun z2 => if z2 = 0 then (some z1) else (if z_in a1 (L 9) = true then (z_let (u (L 4) (a1).toNatClampNeg) (fun z3 => if z3 = (1 : Int32) then (if z1 < 0 then (some (0 : Int32)) else (if (9 : Int32) ≤ z1 then (some (0 : Int32)) else (if z_in z1 9 = true then (z_let (u fa (z1).toNatClampNeg) (fun z18 => some z18)) else none))) else (if z_in a1 (L 9) = true then (z_let (u (L 6) (a1).toNatClampNeg) (fun z4 => if z1 < 0 then (if z4 < 0 then (if z_in a1 (L 9) = true then (z_let (u (L 4) (a1).toNatClampNeg) (fun z5 => if z5 = (2 : Int32) then (some ((0 : Int32) + (0 : Int32))) else (if z5 = (3 : Int32) then (some (0 : Int32)) else (if z5 = (4 : Int32) then (some (0 : Int32)) else (if z5 = (5 : Int32) then (some ((1 : Int32) - (0 : Int32))) else (if z5 = (6 : Int32) then (some ((0 : Int32) &&& (0 : Int32))) else (some ((0 : Int32) ||| (0 : Int32))))))))) else none) else (if a1 ≤ z4 then (if z_in a1 (L 9) = true then (z_let (u (L 4) (a1).toNatClampNeg) (fun z6 => if z6 = (2 : Int32) then (some ((0 : Int32) + (0 : Int32))) else (if z6 = (3 : Int32) then (some (0 : Int32)) else (if z6 = (4 : Int32) then (some (0 : Int32)) else (if z6 = (5 : Int32) then (some ((1 : Int32) - (0 : Int32))) else (if z6 = (6 : Int32) then (some ((0 : Int32) &&& (0 : Int32))) else (some ((0 : Int32) ||| (0 : Int32))))))))) else none) else (if z_in z4 (L 9) = true then (z_let (u (L 7) (z4).toNatClampNeg) (fun z7 => if z_in a1 (L 9) = true then (z_let (u (L 4) (a1).toNatClampNeg) (fun z8 => if z8 = (2 : Int32) then (some ((0 : Int32) + z7)) else (if z8 = (3 : Int32) then (if z7 ≤ (0 : Int32) then (some (0 : Int32)) else (some (1 : Int32))) else (if z8 = (4 : Int32) then (if (0 : Int32) ≤ z7 then (some (0 : Int32)) else (some (1 : Int32))) else (if z8 = (5 : Int32) then (some ((1 : Int32) - (0 : Int32))) else (if z8 = (6 : Int32) then (some ((0 : Int32) &&& z7)) else (some ((0 : Int32) ||| z7)))))))) else none)) else none))) else (if a1 ≤ z1 then (if z4 < 0 then (if z_in a1 (L 9) = true then (z_let (u (L 4) (a1).toNatClampNeg) (fun z9 => if z9 = (2 : Int32) then (some ((0 : Int32) + (0 : Int32))) else (if z9 = (3 : Int32) then (some (0 : Int32)) else (if z9 = (4 : Int32) then (some (0 : Int32)) else (if z9 = (5 : Int32) then (some ((1 : Int32) - (0 : Int32))) else (if z9 = (6 : Int32) then (some ((0 : Int32) &&& (0 : Int32))) else (some ((0 : Int32) ||| (0 : Int32))))))))) else none) else (if a1 ≤ z4 then (if z_in a1 (L 9) = true then (z_let (u (L 4) (a1).toNatClampNeg) (fun z10 => if z10 = (2 : Int32) then (some ((0 : Int32) + (0 : Int32))) else (if z10 = (3 : Int32) then (some (0 : Int32)) else (if z10 = (4 : Int32) then (some (0 : Int32)) else (if z10 = (5 : Int32) then (some ((1 : Int32) - (0 : Int32))) else (if z10 = (6 : Int32) then (some ((0 : Int32) &&& (0 : Int32))) else (some ((0 : Int32) ||| (0 : Int32))))))))) else none) else (if z_in z4 (L 9) = true then (z_let (u (L 7) (z4).toNatClampNeg) (fun z11 => if z_in a1 (L 9) = true then (z_let (u (L 4) (a1).toNatClampNeg) (fun z12 => if z12 = (2 : Int32) then (some ((0 : Int32) + z11)) else (if z12 = (3 : Int32) then (if z11 ≤ (0 : Int32) then (some (0 : Int32)) else (some (1 : Int32))) else (if z12 = (4 : Int32) then (if (0 : Int32) ≤ z11 then (some (0 : Int32)) else (some (1 : Int32))) else (if z12 = (5 : Int32) then (some ((1 : Int32) - (0 : Int32))) else (if z12 = (6 : Int32) then (some ((0 : Int32) &&& z11)) else (some ((0 : Int32) ||| z11)))))))) else none)) else none))) else (if z_in z1 (L 9) = true then (z_let (u (L 7) (z1).toNatClampNeg) (fun z13 => if z4 < 0 then (if z_in a1 (L 9) = true then (z_let (u (L 4) (a1).toNatClampNeg) (fun z14 => if z14 = (2 : Int32) then (some (z13 + (0 : Int32))) else (if z14 = (3 : Int32) then (if (0 : Int32) ≤ z13 then (some (0 : Int32)) else (some (1 : Int32))) else (if z14 = (4 : Int32) then (if z13 ≤ (0 : Int32) then (some (0 : Int32)) else (some (1 : Int32))) else (if z14 = (5 : Int32) then (some ((1 : Int32) - z13)) else (if z14 = (6 : Int32) then (some (z13 &&& (0 : Int32))) else (some (z13 ||| (0 : Int32))))))))) else none) else (if a1 ≤ z4 then (if z_in a1 (L 9) = true then (z_let (u (L 4) (a1).toNatClampNeg) (fun z15 => if z15 = (2 : Int32) then (some (z13 + (0 : Int32))) else (if z15 = (3 : Int32) then (if (0 : Int32) ≤ z13 then (some (0 : Int32)) else (some (1 : Int32))) else (if z15 = (4 : Int32) then (if z13 ≤ (0 : Int32) then (some (0 : Int32)) else (some (1 : Int32))) else (if z15 = (5 : Int32) then (some ((1 : Int32) - z13)) else (if z15 = (6 : Int32) then (some (z13 &&& (0 : Int32))) else (some (z13 ||| (0 : Int32))))))))) else none) else (if z_in z4 (L 9) = true then (z_let (u (L 7) (z4).toNatClampNeg) (fun z16 => if z_in a1 (L 9) = true then (z_let (u (L 4) (a1).toNatClampNeg) (fun z17 => if z17 = (2 : Int32) then (some (z13 + z16)) else (if z17 = (3 : Int32) then (if z16 ≤ z13 then (some (0 : Int32)) else (some (1 : Int32))) else (if z17 = (4 : Int32) then (if z13 ≤ z16 then (some (0 : Int32)) else (some (1 : Int32))) else (if z17 = (5 : Int32) then (some ((1 : Int32) - z13)) else (if z17 = (6 : Int32) then (some (z13 &&& z16)) else (some (z13 ||| z16)))))))) else none)) else none)))) else none)))) else none))) else none))) else none)) else none
theorem f_X4_worth_e (L : Nat → Nat) (fa : Nat) (a1 : Int32) (u : zU) : f_X4_worth L fa a1 u = if z_in a1 (L 9) = true then (z_let (u (L 5) (a1).toNatClampNeg) (fun z1 => if z_in a1 (L 9) = true then (z_let (u (L 4) (a1).toNatClampNeg) (fun z2 => if z2 = 0 then (some z1) else (if z_in a1 (L 9) = true then (z_let (u (L 4) (a1).toNatClampNeg) (fun z3 => if z3 = (1 : Int32) then (if z1 < 0 then (some (0 : Int32)) else (if (9 : Int32) ≤ z1 then (some (0 : Int32)) else (if z_in z1 9 = true then (z_let (u fa (z1).toNatClampNeg) (fun z18 => some z18)) else none))) else (if z_in a1 (L 9) = true then (z_let (u (L 6) (a1).toNatClampNeg) (fun z4 => if z1 < 0 then (if z4 < 0 then (if z_in a1 (L 9) = true then (z_let (u (L 4) (a1).toNatClampNeg) (fun z5 => if z5 = (2 : Int32) then (some ((0 : Int32) + (0 : Int32))) else (if z5 = (3 : Int32) then (some (0 : Int32)) else (if z5 = (4 : Int32) then (some (0 : Int32)) else (if z5 = (5 : Int32) then (some ((1 : Int32) - (0 : Int32))) else (if z5 = (6 : Int32) then (some ((0 : Int32) &&& (0 : Int32))) else (some ((0 : Int32) ||| (0 : Int32))))))))) else none) else (if a1 ≤ z4 then (if z_in a1 (L 9) = true then (z_let (u (L 4) (a1).toNatClampNeg) (fun z6 => if z6 = (2 : Int32) then (some ((0 : Int32) + (0 : Int32))) else (if z6 = (3 : Int32) then (some (0 : Int32)) else (if z6 = (4 : Int32) then (some (0 : Int32)) else (if z6 = (5 : Int32) then (some ((1 : Int32) - (0 : Int32))) else (if z6 = (6 : Int32) then (some ((0 : Int32) &&& (0 : Int32))) else (some ((0 : Int32) ||| (0 : Int32))))))))) else none) else (if z_in z4 (L 9) = true then (z_let (u (L 7) (z4).toNatClampNeg) (fun z7 => if z_in a1 (L 9) = true then (z_let (u (L 4) (a1).toNatClampNeg) (fun z8 => if z8 = (2 : Int32) then (some ((0 : Int32) + z7)) else (if z8 = (3 : Int32) then (if z7 ≤ (0 : Int32) then (some (0 : Int32)) else (some (1 : Int32))) else (if z8 = (4 : Int32) then (if (0 : Int32) ≤ z7 then (some (0 : Int32)) else (some (1 : Int32))) else (if z8 = (5 : Int32) then (some ((1 : Int32) - (0 : Int32))) else (if z8 = (6 : Int32) then (some ((0 : Int32) &&& z7)) else (some ((0 : Int32) ||| z7)))))))) else none)) else none))) else (if a1 ≤ z1 then (if z4 < 0 then (if z_in a1 (L 9) = true then (z_let (u (L 4) (a1).toNatClampNeg) (fun z9 => if z9 = (2 : Int32) then (some ((0 : Int32) + (0 : Int32))) else (if z9 = (3 : Int32) then (some (0 : Int32)) else (if z9 = (4 : Int32) then (some (0 : Int32)) else (if z9 = (5 : Int32) then (some ((1 : Int32) - (0 : Int32))) else (if z9 = (6 : Int32) then (some ((0 : Int32) &&& (0 : Int32))) else (some ((0 : Int32) ||| (0 : Int32))))))))) else none) else (if a1 ≤ z4 then (if z_in a1 (L 9) = true then (z_let (u (L 4) (a1).toNatClampNeg) (fun z10 => if z10 = (2 : Int32) then (some ((0 : Int32) + (0 : Int32))) else (if z10 = (3 : Int32) then (some (0 : Int32)) else (if z10 = (4 : Int32) then (some (0 : Int32)) else (if z10 = (5 : Int32) then (some ((1 : Int32) - (0 : Int32))) else (if z10 = (6 : Int32) then (some ((0 : Int32) &&& (0 : Int32))) else (some ((0 : Int32) ||| (0 : Int32))))))))) else none) else (if z_in z4 (L 9) = true then (z_let (u (L 7) (z4).toNatClampNeg) (fun z11 => if z_in a1 (L 9) = true then (z_let (u (L 4) (a1).toNatClampNeg) (fun z12 => if z12 = (2 : Int32) then (some ((0 : Int32) + z11)) else (if z12 = (3 : Int32) then (if z11 ≤ (0 : Int32) then (some (0 : Int32)) else (some (1 : Int32))) else (if z12 = (4 : Int32) then (if (0 : Int32) ≤ z11 then (some (0 : Int32)) else (some (1 : Int32))) else (if z12 = (5 : Int32) then (some ((1 : Int32) - (0 : Int32))) else (if z12 = (6 : Int32) then (some ((0 : Int32) &&& z11)) else (some ((0 : Int32) ||| z11)))))))) else none)) else none))) else (if z_in z1 (L 9) = true then (z_let (u (L 7) (z1).toNatClampNeg) (fun z13 => if z4 < 0 then (if z_in a1 (L 9) = true then (z_let (u (L 4) (a1).toNatClampNeg) (fun z14 => if z14 = (2 : Int32) then (some (z13 + (0 : Int32))) else (if z14 = (3 : Int32) then (if (0 : Int32) ≤ z13 then (some (0 : Int32)) else (some (1 : Int32))) else (if z14 = (4 : Int32) then (if z13 ≤ (0 : Int32) then (some (0 : Int32)) else (some (1 : Int32))) else (if z14 = (5 : Int32) then (some ((1 : Int32) - z13)) else (if z14 = (6 : Int32) then (some (z13 &&& (0 : Int32))) else (some (z13 ||| (0 : Int32))))))))) else none) else (if a1 ≤ z4 then (if z_in a1 (L 9) = true then (z_let (u (L 4) (a1).toNatClampNeg) (fun z15 => if z15 = (2 : Int32) then (some (z13 + (0 : Int32))) else (if z15 = (3 : Int32) then (if (0 : Int32) ≤ z13 then (some (0 : Int32)) else (some (1 : Int32))) else (if z15 = (4 : Int32) then (if z13 ≤ (0 : Int32) then (some (0 : Int32)) else (some (1 : Int32))) else (if z15 = (5 : Int32) then (some ((1 : Int32) - z13)) else (if z15 = (6 : Int32) then (some (z13 &&& (0 : Int32))) else (some (z13 ||| (0 : Int32))))))))) else none) else (if z_in z4 (L 9) = true then (z_let (u (L 7) (z4).toNatClampNeg) (fun z16 => if z_in a1 (L 9) = true then (z_let (u (L 4) (a1).toNatClampNeg) (fun z17 => if z17 = (2 : Int32) then (some (z13 + z16)) else (if z17 = (3 : Int32) then (if z16 ≤ z13 then (some (0 : Int32)) else (some (1 : Int32))) else (if z17 = (4 : Int32) then (if z13 ≤ z16 then (some (0 : Int32)) else (some (1 : Int32))) else (if z17 = (5 : Int32) then (some ((1 : Int32) - z13)) else (if z17 = (6 : Int32) then (some (z13 &&& z16)) else (some (z13 ||| z16)))))))) else none)) else none)))) else none)))) else none))) else none))) else none)) else none := rfl
set_option maxRecDepth 100000 in
set_option maxHeartbeats 4000000 in
theorem c_X4_worth (l : Launch) (D : zD) (A : Nat → Prop) (b : Nat) (g : zG) (L : Nat → Nat) (fa : Nat) (hL : zLw g L) (hfa : (g fa).1 = 1 ∧ (g fa).2.1 = 9) (a1 : Int32) (u : zU) {v : Int32} (h : f_X4_worth L fa a1 u = some v) : z_M l D A b g yX4_worth cX4_worth 7 (some .int) 0 0 [.ref (b + (L 0)), .int a1, .ref (b + fa)] u (some (.int v)) u := by
  refine z_enter (by decide) (Nat.le_of_ble_eq_true rfl) ?_
  intro p e s m below meth c ls C0 hr hml hlk hW hS hl
  have hl : lv_has ls 7 [(0, .ref (b + (L 0))), (1, .int a1), (2, .ref (b + fa))] := hl
  have hx := C0.1
  have hb := C0.2.1
  rw [f_X4_worth_e] at h
  refine lv_aload_n hx hb dX4_worth_0 rfl (lv_at hl 0 rfl) ?_
  refine z_getr (o := L 5) C0 hW fl_X4_28 hL.1 rfl (hL.2 5 (by decide) (by decide)).1 dX4_worth_1 ?_
  refine lv_iload_n hx hb dX4_worth_4 rfl (lv_at hl 1 rfl) ?_
  replace h := z_if h
  obtain ⟨hin, h⟩ := h
  refine z_iald (n := (L 9)) C0 hW (hL.2 5 (by decide) (by decide)).2.1 (hL.2 5 (by decide) (by decide)).2.2 hin rfl dX4_worth_5 ?_
  clear hin
  refine lv_topi (fun z1 e1 => ?_)
  replace h := z_ly h e1
  clear e1
  refine lv_istore_n (lv' := [(3, .int z1), (0, .ref (b + (L 0))), (1, .int a1), (2, .ref (b + fa))]) hx hb dX4_worth_6 rfl hl (by decide) rfl (fun ls hl => ?_)
  refine lv_aload_n hx hb dX4_worth_7 rfl (lv_at hl 1 rfl) ?_
  refine z_getr (o := L 4) C0 hW fl_X4_25 hL.1 rfl (hL.2 4 (by decide) (by decide)).1 dX4_worth_8 ?_
  refine lv_iload_n hx hb dX4_worth_11 rfl (lv_at hl 2 rfl) ?_
  replace h := z_if h
  obtain ⟨hin, h⟩ := h
  refine z_iald (n := (L 9)) C0 hW (hL.2 4 (by decide) (by decide)).2.1 (hL.2 4 (by decide) (by decide)).2.2 hin rfl dX4_worth_12 ?_
  clear hin
  refine lv_topi (fun z2 e1 => ?_)
  replace h := z_ly h e1
  clear e1
  refine lv_if_ne (tgt := 18) hx hb dX4_worth_13 (by decide) (fun hc => ?_) (fun hc => ?_)
  · replace h := z_f h hc
    clear hc
    refine lv_aload_n hx hb dX4_worth_18 rfl (lv_at hl 1 rfl) ?_
    refine z_getr (o := L 4) C0 hW fl_X4_25 hL.1 rfl (hL.2 4 (by decide) (by decide)).1 dX4_worth_19 ?_
    refine lv_iload_n hx hb dX4_worth_22 rfl (lv_at hl 2 rfl) ?_
    replace h := z_if h
    obtain ⟨hin, h⟩ := h
    refine z_iald (n := (L 9)) C0 hW (hL.2 4 (by decide) (by decide)).2.1 (hL.2 4 (by decide) (by decide)).2.2 hin rfl dX4_worth_23 ?_
    clear hin
    refine lv_topi (fun z3 e1 => ?_)
    replace h := z_ly h e1
    clear e1
    refine lv_iconst (v := (1 : Int32)) hx hb dX4_worth_24 (by decide) ?_
    refine lv_icmp_ne (tgt := 46) hx hb dX4_worth_25 (by decide) (fun hc => ?_) (fun hc => ?_)
    · replace h := z_f h hc
      clear hc
      refine lv_aload_n hx hb dX4_worth_46 rfl (lv_at hl 1 rfl) ?_
      refine z_getr (o := L 6) C0 hW fl_X4_31 hL.1 rfl (hL.2 6 (by decide) (by decide)).1 dX4_worth_47 ?_
      refine lv_iload_n hx hb dX4_worth_50 rfl (lv_at hl 2 rfl) ?_
      replace h := z_if h
      obtain ⟨hin, h⟩ := h
      refine z_iald (n := (L 9)) C0 hW (hL.2 6 (by decide) (by decide)).2.1 (hL.2 6 (by decide) (by decide)).2.2 hin rfl dX4_worth_51 ?_
      clear hin
      refine lv_topi (fun z4 e1 => ?_)
      replace h := z_ly h e1
      clear e1
      refine lv_istore (lv' := [(4, .int z4), (3, .int z1), (0, .ref (b + (L 0))), (1, .int a1), (2, .ref (b + fa))]) hx hb dX4_worth_52 hl (by decide) rfl (fun ls hl => ?_)
      refine lv_iload_n hx hb dX4_worth_54 rfl (lv_at hl 1 rfl) ?_
      refine lv_if_lt (tgt := 72) hx hb dX4_worth_55 (by decide) (fun hc => ?_) (fun hc => ?_)
      · replace h := z_t h hc
        clear hc
        refine lv_iconst (v := (0 : Int32)) hx hb dX4_worth_72 (by decide) ?_
        refine lv_istore (lv' := [(5, .int (0 : Int32)), (4, .int z4), (3, .int z1), (0, .ref (b + (L 0))), (1, .int a1), (2, .ref (b + fa))]) hx hb dX4_worth_73 hl (by decide) rfl (fun ls hl => ?_)
        refine lv_iload hx hb dX4_worth_75 (lv_at hl 1 rfl) ?_
        refine lv_if_lt (tgt := 96) hx hb dX4_worth_77 (by decide) (fun hc => ?_) (fun hc => ?_)
        · replace h := z_t h hc
          clear hc
          refine lv_iconst (v := (0 : Int32)) hx hb dX4_worth_96 (by decide) ?_
          refine lv_istore (lv' := [(6, .int (0 : Int32)), (5, .int (0 : Int32)), (4, .int z4), (3, .int z1), (0, .ref (b + (L 0))), (1, .int a1), (2, .ref (b + fa))]) hx hb dX4_worth_97 hl (by decide) rfl (fun ls hl => ?_)
          refine lv_aload_n hx hb dX4_worth_99 rfl (lv_at hl 4 rfl) ?_
          refine z_getr (o := L 4) C0 hW fl_X4_25 hL.1 rfl (hL.2 4 (by decide) (by decide)).1 dX4_worth_100 ?_
          refine lv_iload_n hx hb dX4_worth_103 rfl (lv_at hl 5 rfl) ?_
          replace h := z_if h
          obtain ⟨hin, h⟩ := h
          refine z_iald (n := (L 9)) C0 hW (hL.2 4 (by decide) (by decide)).2.1 (hL.2 4 (by decide) (by decide)).2.2 hin rfl dX4_worth_104 ?_
          clear hin
          refine lv_topi (fun z5 e1 => ?_)
          replace h := z_ly h e1
          clear e1
          by_cases hn2 : z5 = (2 : Int32)
          · replace h := z_t h hn2
            refine lv_tableIn (off := 35) (tgt := 140) hx hb dX4_worth_105 (z_swa hn2 2 6 0 (by decide)).1 (z_swa hn2 2 6 0 (by decide)).2.1 (by rw [(z_swa hn2 2 6 0 (by decide)).2.2]; rfl) (by decide) ?_
            refine lv_iload hx hb dX4_worth_140 (lv_at hl 1 rfl) ?_
            refine lv_iload hx hb dX4_worth_142 (lv_at hl 0 rfl) ?_
            refine lv_iadd hx hb dX4_worth_144 ?_
            cases h
            exact z_iret C0 hr hlk hW hS dX4_worth_145
          · replace h := z_f h hn2
            by_cases hn3 : z5 = (3 : Int32)
            · replace h := z_t h hn3
              refine lv_tableIn (off := 41) (tgt := 146) hx hb dX4_worth_105 (z_swa hn3 2 6 1 (by decide)).1 (z_swa hn3 2 6 1 (by decide)).2.1 (by rw [(z_swa hn3 2 6 1 (by decide)).2.2]; rfl) (by decide) ?_
              refine lv_iload hx hb dX4_worth_146 (lv_at hl 1 rfl) ?_
              refine lv_iload hx hb dX4_worth_148 (lv_at hl 0 rfl) ?_
              refine lv_icmp_ge (tgt := 157) hx hb dX4_worth_150 (by decide) (fun hc => ?_) (fun hc => ?_)
              · clear hc
                refine lv_iconst (v := (0 : Int32)) hx hb dX4_worth_157 (by decide) ?_
                cases h
                exact z_iret C0 hr hlk hW hS dX4_worth_158
              · exact absurd hc (by decide)
            · replace h := z_f h hn3
              by_cases hn4 : z5 = (4 : Int32)
              · replace h := z_t h hn4
                refine lv_tableIn (off := 54) (tgt := 159) hx hb dX4_worth_105 (z_swa hn4 2 6 2 (by decide)).1 (z_swa hn4 2 6 2 (by decide)).2.1 (by rw [(z_swa hn4 2 6 2 (by decide)).2.2]; rfl) (by decide) ?_
                refine lv_iload hx hb dX4_worth_159 (lv_at hl 1 rfl) ?_
                refine lv_iload hx hb dX4_worth_161 (lv_at hl 0 rfl) ?_
                refine lv_icmp_le (tgt := 170) hx hb dX4_worth_163 (by decide) (fun hc => ?_) (fun hc => ?_)
                · clear hc
                  refine lv_iconst (v := (0 : Int32)) hx hb dX4_worth_170 (by decide) ?_
                  cases h
                  exact z_iret C0 hr hlk hW hS dX4_worth_171
                · exact absurd hc (by decide)
              · replace h := z_f h hn4
                by_cases hn5 : z5 = (5 : Int32)
                · replace h := z_t h hn5
                  refine lv_tableIn (off := 67) (tgt := 172) hx hb dX4_worth_105 (z_swa hn5 2 6 3 (by decide)).1 (z_swa hn5 2 6 3 (by decide)).2.1 (by rw [(z_swa hn5 2 6 3 (by decide)).2.2]; rfl) (by decide) ?_
                  refine lv_iconst (v := (1 : Int32)) hx hb dX4_worth_172 (by decide) ?_
                  refine lv_iload hx hb dX4_worth_173 (lv_at hl 1 rfl) ?_
                  refine lv_isub hx hb dX4_worth_175 ?_
                  cases h
                  exact z_iret C0 hr hlk hW hS dX4_worth_176
                · replace h := z_f h hn5
                  by_cases hn6 : z5 = (6 : Int32)
                  · replace h := z_t h hn6
                    refine lv_tableIn (off := 72) (tgt := 177) hx hb dX4_worth_105 (z_swa hn6 2 6 4 (by decide)).1 (z_swa hn6 2 6 4 (by decide)).2.1 (by rw [(z_swa hn6 2 6 4 (by decide)).2.2]; rfl) (by decide) ?_
                    refine lv_iload hx hb dX4_worth_177 (lv_at hl 1 rfl) ?_
                    refine lv_iload hx hb dX4_worth_179 (lv_at hl 0 rfl) ?_
                    refine lv_iand hx hb dX4_worth_181 ?_
                    cases h
                    exact z_iret C0 hr hlk hW hS dX4_worth_182
                  · replace h := z_f h hn6
                    refine lv_tableOut (tgt := 183) hx hb dX4_worth_105 (z_sw 2 6 (by decide) (fun k h1 h2 => ?_)) (by decide) ?_
                    · rcases (show k = 2 ∨ k = 3 ∨ k = 4 ∨ k = 5 ∨ k = 6 by omega) with rfl | rfl | rfl | rfl | rfl
                      · exact hn2
                      · exact hn3
                      · exact hn4
                      · exact hn5
                      · exact hn6
                    · refine lv_iload hx hb dX4_worth_183 (lv_at hl 1 rfl) ?_
                      refine lv_iload hx hb dX4_worth_185 (lv_at hl 0 rfl) ?_
                      refine lv_ior hx hb dX4_worth_187 ?_
                      cases h
                      exact z_iret C0 hr hlk hW hS dX4_worth_188
        · replace h := z_f h hc
          clear hc
          refine lv_iload hx hb dX4_worth_80 (lv_at hl 1 rfl) ?_
          refine lv_iload_n hx hb dX4_worth_82 rfl (lv_at hl 4 rfl) ?_
          refine lv_icmp_ge (tgt := 96) hx hb dX4_worth_83 (by decide) (fun hc => ?_) (fun hc => ?_)
          · replace h := z_t h hc
            clear hc
            refine lv_iconst (v := (0 : Int32)) hx hb dX4_worth_96 (by decide) ?_
            refine lv_istore (lv' := [(6, .int (0 : Int32)), (5, .int (0 : Int32)), (4, .int z4), (3, .int z1), (0, .ref (b + (L 0))), (1, .int a1), (2, .ref (b + fa))]) hx hb dX4_worth_97 hl (by decide) rfl (fun ls hl => ?_)
            refine lv_aload_n hx hb dX4_worth_99 rfl (lv_at hl 4 rfl) ?_
            refine z_getr (o := L 4) C0 hW fl_X4_25 hL.1 rfl (hL.2 4 (by decide) (by decide)).1 dX4_worth_100 ?_
            refine lv_iload_n hx hb dX4_worth_103 rfl (lv_at hl 5 rfl) ?_
            replace h := z_if h
            obtain ⟨hin, h⟩ := h
            refine z_iald (n := (L 9)) C0 hW (hL.2 4 (by decide) (by decide)).2.1 (hL.2 4 (by decide) (by decide)).2.2 hin rfl dX4_worth_104 ?_
            clear hin
            refine lv_topi (fun z6 e1 => ?_)
            replace h := z_ly h e1
            clear e1
            by_cases hn2 : z6 = (2 : Int32)
            · replace h := z_t h hn2
              refine lv_tableIn (off := 35) (tgt := 140) hx hb dX4_worth_105 (z_swa hn2 2 6 0 (by decide)).1 (z_swa hn2 2 6 0 (by decide)).2.1 (by rw [(z_swa hn2 2 6 0 (by decide)).2.2]; rfl) (by decide) ?_
              refine lv_iload hx hb dX4_worth_140 (lv_at hl 1 rfl) ?_
              refine lv_iload hx hb dX4_worth_142 (lv_at hl 0 rfl) ?_
              refine lv_iadd hx hb dX4_worth_144 ?_
              cases h
              exact z_iret C0 hr hlk hW hS dX4_worth_145
            · replace h := z_f h hn2
              by_cases hn3 : z6 = (3 : Int32)
              · replace h := z_t h hn3
                refine lv_tableIn (off := 41) (tgt := 146) hx hb dX4_worth_105 (z_swa hn3 2 6 1 (by decide)).1 (z_swa hn3 2 6 1 (by decide)).2.1 (by rw [(z_swa hn3 2 6 1 (by decide)).2.2]; rfl) (by decide) ?_
                refine lv_iload hx hb dX4_worth_146 (lv_at hl 1 rfl) ?_
                refine lv_iload hx hb dX4_worth_148 (lv_at hl 0 rfl) ?_
                refine lv_icmp_ge (tgt := 157) hx hb dX4_worth_150 (by decide) (fun hc => ?_) (fun hc => ?_)
                · clear hc
                  refine lv_iconst (v := (0 : Int32)) hx hb dX4_worth_157 (by decide) ?_
                  cases h
                  exact z_iret C0 hr hlk hW hS dX4_worth_158
                · exact absurd hc (by decide)
              · replace h := z_f h hn3
                by_cases hn4 : z6 = (4 : Int32)
                · replace h := z_t h hn4
                  refine lv_tableIn (off := 54) (tgt := 159) hx hb dX4_worth_105 (z_swa hn4 2 6 2 (by decide)).1 (z_swa hn4 2 6 2 (by decide)).2.1 (by rw [(z_swa hn4 2 6 2 (by decide)).2.2]; rfl) (by decide) ?_
                  refine lv_iload hx hb dX4_worth_159 (lv_at hl 1 rfl) ?_
                  refine lv_iload hx hb dX4_worth_161 (lv_at hl 0 rfl) ?_
                  refine lv_icmp_le (tgt := 170) hx hb dX4_worth_163 (by decide) (fun hc => ?_) (fun hc => ?_)
                  · clear hc
                    refine lv_iconst (v := (0 : Int32)) hx hb dX4_worth_170 (by decide) ?_
                    cases h
                    exact z_iret C0 hr hlk hW hS dX4_worth_171
                  · exact absurd hc (by decide)
                · replace h := z_f h hn4
                  by_cases hn5 : z6 = (5 : Int32)
                  · replace h := z_t h hn5
                    refine lv_tableIn (off := 67) (tgt := 172) hx hb dX4_worth_105 (z_swa hn5 2 6 3 (by decide)).1 (z_swa hn5 2 6 3 (by decide)).2.1 (by rw [(z_swa hn5 2 6 3 (by decide)).2.2]; rfl) (by decide) ?_
                    refine lv_iconst (v := (1 : Int32)) hx hb dX4_worth_172 (by decide) ?_
                    refine lv_iload hx hb dX4_worth_173 (lv_at hl 1 rfl) ?_
                    refine lv_isub hx hb dX4_worth_175 ?_
                    cases h
                    exact z_iret C0 hr hlk hW hS dX4_worth_176
                  · replace h := z_f h hn5
                    by_cases hn6 : z6 = (6 : Int32)
                    · replace h := z_t h hn6
                      refine lv_tableIn (off := 72) (tgt := 177) hx hb dX4_worth_105 (z_swa hn6 2 6 4 (by decide)).1 (z_swa hn6 2 6 4 (by decide)).2.1 (by rw [(z_swa hn6 2 6 4 (by decide)).2.2]; rfl) (by decide) ?_
                      refine lv_iload hx hb dX4_worth_177 (lv_at hl 1 rfl) ?_
                      refine lv_iload hx hb dX4_worth_179 (lv_at hl 0 rfl) ?_
                      refine lv_iand hx hb dX4_worth_181 ?_
                      cases h
                      exact z_iret C0 hr hlk hW hS dX4_worth_182
                    · replace h := z_f h hn6
                      refine lv_tableOut (tgt := 183) hx hb dX4_worth_105 (z_sw 2 6 (by decide) (fun k h1 h2 => ?_)) (by decide) ?_
                      · rcases (show k = 2 ∨ k = 3 ∨ k = 4 ∨ k = 5 ∨ k = 6 by omega) with rfl | rfl | rfl | rfl | rfl
                        · exact hn2
                        · exact hn3
                        · exact hn4
                        · exact hn5
                        · exact hn6
                      · refine lv_iload hx hb dX4_worth_183 (lv_at hl 1 rfl) ?_
                        refine lv_iload hx hb dX4_worth_185 (lv_at hl 0 rfl) ?_
                        refine lv_ior hx hb dX4_worth_187 ?_
                        cases h
                        exact z_iret C0 hr hlk hW hS dX4_worth_188
          · replace h := z_f h hc
            clear hc
            refine lv_aload_n hx hb dX4_worth_86 rfl (lv_at hl 3 rfl) ?_
            refine z_getr (o := L 7) C0 hW fl_X4_34 hL.1 rfl (hL.2 7 (by decide) (by decide)).1 dX4_worth_87 ?_
            refine lv_iload hx hb dX4_worth_90 (lv_at hl 1 rfl) ?_
            replace h := z_if h
            obtain ⟨hin, h⟩ := h
            refine z_iald (n := (L 9)) C0 hW (hL.2 7 (by decide) (by decide)).2.1 (hL.2 7 (by decide) (by decide)).2.2 hin rfl dX4_worth_92 ?_
            clear hin
            refine lv_topi (fun z7 e1 => ?_)
            replace h := z_ly h e1
            clear e1
            refine lv_goto (tgt := 97) hx hb dX4_worth_93 (by decide) ?_
            refine lv_istore (lv' := [(6, .int z7), (5, .int (0 : Int32)), (4, .int z4), (3, .int z1), (0, .ref (b + (L 0))), (1, .int a1), (2, .ref (b + fa))]) hx hb dX4_worth_97 hl (by decide) rfl (fun ls hl => ?_)
            refine lv_aload_n hx hb dX4_worth_99 rfl (lv_at hl 4 rfl) ?_
            refine z_getr (o := L 4) C0 hW fl_X4_25 hL.1 rfl (hL.2 4 (by decide) (by decide)).1 dX4_worth_100 ?_
            refine lv_iload_n hx hb dX4_worth_103 rfl (lv_at hl 5 rfl) ?_
            replace h := z_if h
            obtain ⟨hin, h⟩ := h
            refine z_iald (n := (L 9)) C0 hW (hL.2 4 (by decide) (by decide)).2.1 (hL.2 4 (by decide) (by decide)).2.2 hin rfl dX4_worth_104 ?_
            clear hin
            refine lv_topi (fun z8 e1 => ?_)
            replace h := z_ly h e1
            clear e1
            by_cases hn2 : z8 = (2 : Int32)
            · replace h := z_t h hn2
              refine lv_tableIn (off := 35) (tgt := 140) hx hb dX4_worth_105 (z_swa hn2 2 6 0 (by decide)).1 (z_swa hn2 2 6 0 (by decide)).2.1 (by rw [(z_swa hn2 2 6 0 (by decide)).2.2]; rfl) (by decide) ?_
              refine lv_iload hx hb dX4_worth_140 (lv_at hl 1 rfl) ?_
              refine lv_iload hx hb dX4_worth_142 (lv_at hl 0 rfl) ?_
              refine lv_iadd hx hb dX4_worth_144 ?_
              cases h
              exact z_iret C0 hr hlk hW hS dX4_worth_145
            · replace h := z_f h hn2
              by_cases hn3 : z8 = (3 : Int32)
              · replace h := z_t h hn3
                refine lv_tableIn (off := 41) (tgt := 146) hx hb dX4_worth_105 (z_swa hn3 2 6 1 (by decide)).1 (z_swa hn3 2 6 1 (by decide)).2.1 (by rw [(z_swa hn3 2 6 1 (by decide)).2.2]; rfl) (by decide) ?_
                refine lv_iload hx hb dX4_worth_146 (lv_at hl 1 rfl) ?_
                refine lv_iload hx hb dX4_worth_148 (lv_at hl 0 rfl) ?_
                refine lv_icmp_ge (tgt := 157) hx hb dX4_worth_150 (by decide) (fun hc => ?_) (fun hc => ?_)
                · replace h := z_t h hc
                  clear hc
                  refine lv_iconst (v := (0 : Int32)) hx hb dX4_worth_157 (by decide) ?_
                  cases h
                  exact z_iret C0 hr hlk hW hS dX4_worth_158
                · replace h := z_f h hc
                  clear hc
                  refine lv_iconst (v := (1 : Int32)) hx hb dX4_worth_153 (by decide) ?_
                  refine lv_goto (tgt := 158) hx hb dX4_worth_154 (by decide) ?_
                  cases h
                  exact z_iret C0 hr hlk hW hS dX4_worth_158
              · replace h := z_f h hn3
                by_cases hn4 : z8 = (4 : Int32)
                · replace h := z_t h hn4
                  refine lv_tableIn (off := 54) (tgt := 159) hx hb dX4_worth_105 (z_swa hn4 2 6 2 (by decide)).1 (z_swa hn4 2 6 2 (by decide)).2.1 (by rw [(z_swa hn4 2 6 2 (by decide)).2.2]; rfl) (by decide) ?_
                  refine lv_iload hx hb dX4_worth_159 (lv_at hl 1 rfl) ?_
                  refine lv_iload hx hb dX4_worth_161 (lv_at hl 0 rfl) ?_
                  refine lv_icmp_le (tgt := 170) hx hb dX4_worth_163 (by decide) (fun hc => ?_) (fun hc => ?_)
                  · replace h := z_t h hc
                    clear hc
                    refine lv_iconst (v := (0 : Int32)) hx hb dX4_worth_170 (by decide) ?_
                    cases h
                    exact z_iret C0 hr hlk hW hS dX4_worth_171
                  · replace h := z_f h hc
                    clear hc
                    refine lv_iconst (v := (1 : Int32)) hx hb dX4_worth_166 (by decide) ?_
                    refine lv_goto (tgt := 171) hx hb dX4_worth_167 (by decide) ?_
                    cases h
                    exact z_iret C0 hr hlk hW hS dX4_worth_171
                · replace h := z_f h hn4
                  by_cases hn5 : z8 = (5 : Int32)
                  · replace h := z_t h hn5
                    refine lv_tableIn (off := 67) (tgt := 172) hx hb dX4_worth_105 (z_swa hn5 2 6 3 (by decide)).1 (z_swa hn5 2 6 3 (by decide)).2.1 (by rw [(z_swa hn5 2 6 3 (by decide)).2.2]; rfl) (by decide) ?_
                    refine lv_iconst (v := (1 : Int32)) hx hb dX4_worth_172 (by decide) ?_
                    refine lv_iload hx hb dX4_worth_173 (lv_at hl 1 rfl) ?_
                    refine lv_isub hx hb dX4_worth_175 ?_
                    cases h
                    exact z_iret C0 hr hlk hW hS dX4_worth_176
                  · replace h := z_f h hn5
                    by_cases hn6 : z8 = (6 : Int32)
                    · replace h := z_t h hn6
                      refine lv_tableIn (off := 72) (tgt := 177) hx hb dX4_worth_105 (z_swa hn6 2 6 4 (by decide)).1 (z_swa hn6 2 6 4 (by decide)).2.1 (by rw [(z_swa hn6 2 6 4 (by decide)).2.2]; rfl) (by decide) ?_
                      refine lv_iload hx hb dX4_worth_177 (lv_at hl 1 rfl) ?_
                      refine lv_iload hx hb dX4_worth_179 (lv_at hl 0 rfl) ?_
                      refine lv_iand hx hb dX4_worth_181 ?_
                      cases h
                      exact z_iret C0 hr hlk hW hS dX4_worth_182
                    · replace h := z_f h hn6
                      refine lv_tableOut (tgt := 183) hx hb dX4_worth_105 (z_sw 2 6 (by decide) (fun k h1 h2 => ?_)) (by decide) ?_
                      · rcases (show k = 2 ∨ k = 3 ∨ k = 4 ∨ k = 5 ∨ k = 6 by omega) with rfl | rfl | rfl | rfl | rfl
                        · exact hn2
                        · exact hn3
                        · exact hn4
                        · exact hn5
                        · exact hn6
                      · refine lv_iload hx hb dX4_worth_183 (lv_at hl 1 rfl) ?_
                        refine lv_iload hx hb dX4_worth_185 (lv_at hl 0 rfl) ?_
                        refine lv_ior hx hb dX4_worth_187 ?_
                        cases h
                        exact z_iret C0 hr hlk hW hS dX4_worth_188
      · replace h := z_f h hc
        clear hc
        refine lv_iload_n hx hb dX4_worth_58 rfl (lv_at hl 1 rfl) ?_
        refine lv_iload_n hx hb dX4_worth_59 rfl (lv_at hl 3 rfl) ?_
        refine lv_icmp_ge (tgt := 72) hx hb dX4_worth_60 (by decide) (fun hc => ?_) (fun hc => ?_)
        · replace h := z_t h hc
          clear hc
          refine lv_iconst (v := (0 : Int32)) hx hb dX4_worth_72 (by decide) ?_
          refine lv_istore (lv' := [(5, .int (0 : Int32)), (4, .int z4), (3, .int z1), (0, .ref (b + (L 0))), (1, .int a1), (2, .ref (b + fa))]) hx hb dX4_worth_73 hl (by decide) rfl (fun ls hl => ?_)
          refine lv_iload hx hb dX4_worth_75 (lv_at hl 1 rfl) ?_
          refine lv_if_lt (tgt := 96) hx hb dX4_worth_77 (by decide) (fun hc => ?_) (fun hc => ?_)
          · replace h := z_t h hc
            clear hc
            refine lv_iconst (v := (0 : Int32)) hx hb dX4_worth_96 (by decide) ?_
            refine lv_istore (lv' := [(6, .int (0 : Int32)), (5, .int (0 : Int32)), (4, .int z4), (3, .int z1), (0, .ref (b + (L 0))), (1, .int a1), (2, .ref (b + fa))]) hx hb dX4_worth_97 hl (by decide) rfl (fun ls hl => ?_)
            refine lv_aload_n hx hb dX4_worth_99 rfl (lv_at hl 4 rfl) ?_
            refine z_getr (o := L 4) C0 hW fl_X4_25 hL.1 rfl (hL.2 4 (by decide) (by decide)).1 dX4_worth_100 ?_
            refine lv_iload_n hx hb dX4_worth_103 rfl (lv_at hl 5 rfl) ?_
            replace h := z_if h
            obtain ⟨hin, h⟩ := h
            refine z_iald (n := (L 9)) C0 hW (hL.2 4 (by decide) (by decide)).2.1 (hL.2 4 (by decide) (by decide)).2.2 hin rfl dX4_worth_104 ?_
            clear hin
            refine lv_topi (fun z9 e1 => ?_)
            replace h := z_ly h e1
            clear e1
            by_cases hn2 : z9 = (2 : Int32)
            · replace h := z_t h hn2
              refine lv_tableIn (off := 35) (tgt := 140) hx hb dX4_worth_105 (z_swa hn2 2 6 0 (by decide)).1 (z_swa hn2 2 6 0 (by decide)).2.1 (by rw [(z_swa hn2 2 6 0 (by decide)).2.2]; rfl) (by decide) ?_
              refine lv_iload hx hb dX4_worth_140 (lv_at hl 1 rfl) ?_
              refine lv_iload hx hb dX4_worth_142 (lv_at hl 0 rfl) ?_
              refine lv_iadd hx hb dX4_worth_144 ?_
              cases h
              exact z_iret C0 hr hlk hW hS dX4_worth_145
            · replace h := z_f h hn2
              by_cases hn3 : z9 = (3 : Int32)
              · replace h := z_t h hn3
                refine lv_tableIn (off := 41) (tgt := 146) hx hb dX4_worth_105 (z_swa hn3 2 6 1 (by decide)).1 (z_swa hn3 2 6 1 (by decide)).2.1 (by rw [(z_swa hn3 2 6 1 (by decide)).2.2]; rfl) (by decide) ?_
                refine lv_iload hx hb dX4_worth_146 (lv_at hl 1 rfl) ?_
                refine lv_iload hx hb dX4_worth_148 (lv_at hl 0 rfl) ?_
                refine lv_icmp_ge (tgt := 157) hx hb dX4_worth_150 (by decide) (fun hc => ?_) (fun hc => ?_)
                · clear hc
                  refine lv_iconst (v := (0 : Int32)) hx hb dX4_worth_157 (by decide) ?_
                  cases h
                  exact z_iret C0 hr hlk hW hS dX4_worth_158
                · exact absurd hc (by decide)
              · replace h := z_f h hn3
                by_cases hn4 : z9 = (4 : Int32)
                · replace h := z_t h hn4
                  refine lv_tableIn (off := 54) (tgt := 159) hx hb dX4_worth_105 (z_swa hn4 2 6 2 (by decide)).1 (z_swa hn4 2 6 2 (by decide)).2.1 (by rw [(z_swa hn4 2 6 2 (by decide)).2.2]; rfl) (by decide) ?_
                  refine lv_iload hx hb dX4_worth_159 (lv_at hl 1 rfl) ?_
                  refine lv_iload hx hb dX4_worth_161 (lv_at hl 0 rfl) ?_
                  refine lv_icmp_le (tgt := 170) hx hb dX4_worth_163 (by decide) (fun hc => ?_) (fun hc => ?_)
                  · clear hc
                    refine lv_iconst (v := (0 : Int32)) hx hb dX4_worth_170 (by decide) ?_
                    cases h
                    exact z_iret C0 hr hlk hW hS dX4_worth_171
                  · exact absurd hc (by decide)
                · replace h := z_f h hn4
                  by_cases hn5 : z9 = (5 : Int32)
                  · replace h := z_t h hn5
                    refine lv_tableIn (off := 67) (tgt := 172) hx hb dX4_worth_105 (z_swa hn5 2 6 3 (by decide)).1 (z_swa hn5 2 6 3 (by decide)).2.1 (by rw [(z_swa hn5 2 6 3 (by decide)).2.2]; rfl) (by decide) ?_
                    refine lv_iconst (v := (1 : Int32)) hx hb dX4_worth_172 (by decide) ?_
                    refine lv_iload hx hb dX4_worth_173 (lv_at hl 1 rfl) ?_
                    refine lv_isub hx hb dX4_worth_175 ?_
                    cases h
                    exact z_iret C0 hr hlk hW hS dX4_worth_176
                  · replace h := z_f h hn5
                    by_cases hn6 : z9 = (6 : Int32)
                    · replace h := z_t h hn6
                      refine lv_tableIn (off := 72) (tgt := 177) hx hb dX4_worth_105 (z_swa hn6 2 6 4 (by decide)).1 (z_swa hn6 2 6 4 (by decide)).2.1 (by rw [(z_swa hn6 2 6 4 (by decide)).2.2]; rfl) (by decide) ?_
                      refine lv_iload hx hb dX4_worth_177 (lv_at hl 1 rfl) ?_
                      refine lv_iload hx hb dX4_worth_179 (lv_at hl 0 rfl) ?_
                      refine lv_iand hx hb dX4_worth_181 ?_
                      cases h
                      exact z_iret C0 hr hlk hW hS dX4_worth_182
                    · replace h := z_f h hn6
                      refine lv_tableOut (tgt := 183) hx hb dX4_worth_105 (z_sw 2 6 (by decide) (fun k h1 h2 => ?_)) (by decide) ?_
                      · rcases (show k = 2 ∨ k = 3 ∨ k = 4 ∨ k = 5 ∨ k = 6 by omega) with rfl | rfl | rfl | rfl | rfl
                        · exact hn2
                        · exact hn3
                        · exact hn4
                        · exact hn5
                        · exact hn6
                      · refine lv_iload hx hb dX4_worth_183 (lv_at hl 1 rfl) ?_
                        refine lv_iload hx hb dX4_worth_185 (lv_at hl 0 rfl) ?_
                        refine lv_ior hx hb dX4_worth_187 ?_
                        cases h
                        exact z_iret C0 hr hlk hW hS dX4_worth_188
          · replace h := z_f h hc
            clear hc
            refine lv_iload hx hb dX4_worth_80 (lv_at hl 1 rfl) ?_
            refine lv_iload_n hx hb dX4_worth_82 rfl (lv_at hl 4 rfl) ?_
            refine lv_icmp_ge (tgt := 96) hx hb dX4_worth_83 (by decide) (fun hc => ?_) (fun hc => ?_)
            · replace h := z_t h hc
              clear hc
              refine lv_iconst (v := (0 : Int32)) hx hb dX4_worth_96 (by decide) ?_
              refine lv_istore (lv' := [(6, .int (0 : Int32)), (5, .int (0 : Int32)), (4, .int z4), (3, .int z1), (0, .ref (b + (L 0))), (1, .int a1), (2, .ref (b + fa))]) hx hb dX4_worth_97 hl (by decide) rfl (fun ls hl => ?_)
              refine lv_aload_n hx hb dX4_worth_99 rfl (lv_at hl 4 rfl) ?_
              refine z_getr (o := L 4) C0 hW fl_X4_25 hL.1 rfl (hL.2 4 (by decide) (by decide)).1 dX4_worth_100 ?_
              refine lv_iload_n hx hb dX4_worth_103 rfl (lv_at hl 5 rfl) ?_
              replace h := z_if h
              obtain ⟨hin, h⟩ := h
              refine z_iald (n := (L 9)) C0 hW (hL.2 4 (by decide) (by decide)).2.1 (hL.2 4 (by decide) (by decide)).2.2 hin rfl dX4_worth_104 ?_
              clear hin
              refine lv_topi (fun z10 e1 => ?_)
              replace h := z_ly h e1
              clear e1
              by_cases hn2 : z10 = (2 : Int32)
              · replace h := z_t h hn2
                refine lv_tableIn (off := 35) (tgt := 140) hx hb dX4_worth_105 (z_swa hn2 2 6 0 (by decide)).1 (z_swa hn2 2 6 0 (by decide)).2.1 (by rw [(z_swa hn2 2 6 0 (by decide)).2.2]; rfl) (by decide) ?_
                refine lv_iload hx hb dX4_worth_140 (lv_at hl 1 rfl) ?_
                refine lv_iload hx hb dX4_worth_142 (lv_at hl 0 rfl) ?_
                refine lv_iadd hx hb dX4_worth_144 ?_
                cases h
                exact z_iret C0 hr hlk hW hS dX4_worth_145
              · replace h := z_f h hn2
                by_cases hn3 : z10 = (3 : Int32)
                · replace h := z_t h hn3
                  refine lv_tableIn (off := 41) (tgt := 146) hx hb dX4_worth_105 (z_swa hn3 2 6 1 (by decide)).1 (z_swa hn3 2 6 1 (by decide)).2.1 (by rw [(z_swa hn3 2 6 1 (by decide)).2.2]; rfl) (by decide) ?_
                  refine lv_iload hx hb dX4_worth_146 (lv_at hl 1 rfl) ?_
                  refine lv_iload hx hb dX4_worth_148 (lv_at hl 0 rfl) ?_
                  refine lv_icmp_ge (tgt := 157) hx hb dX4_worth_150 (by decide) (fun hc => ?_) (fun hc => ?_)
                  · clear hc
                    refine lv_iconst (v := (0 : Int32)) hx hb dX4_worth_157 (by decide) ?_
                    cases h
                    exact z_iret C0 hr hlk hW hS dX4_worth_158
                  · exact absurd hc (by decide)
                · replace h := z_f h hn3
                  by_cases hn4 : z10 = (4 : Int32)
                  · replace h := z_t h hn4
                    refine lv_tableIn (off := 54) (tgt := 159) hx hb dX4_worth_105 (z_swa hn4 2 6 2 (by decide)).1 (z_swa hn4 2 6 2 (by decide)).2.1 (by rw [(z_swa hn4 2 6 2 (by decide)).2.2]; rfl) (by decide) ?_
                    refine lv_iload hx hb dX4_worth_159 (lv_at hl 1 rfl) ?_
                    refine lv_iload hx hb dX4_worth_161 (lv_at hl 0 rfl) ?_
                    refine lv_icmp_le (tgt := 170) hx hb dX4_worth_163 (by decide) (fun hc => ?_) (fun hc => ?_)
                    · clear hc
                      refine lv_iconst (v := (0 : Int32)) hx hb dX4_worth_170 (by decide) ?_
                      cases h
                      exact z_iret C0 hr hlk hW hS dX4_worth_171
                    · exact absurd hc (by decide)
                  · replace h := z_f h hn4
                    by_cases hn5 : z10 = (5 : Int32)
                    · replace h := z_t h hn5
                      refine lv_tableIn (off := 67) (tgt := 172) hx hb dX4_worth_105 (z_swa hn5 2 6 3 (by decide)).1 (z_swa hn5 2 6 3 (by decide)).2.1 (by rw [(z_swa hn5 2 6 3 (by decide)).2.2]; rfl) (by decide) ?_
                      refine lv_iconst (v := (1 : Int32)) hx hb dX4_worth_172 (by decide) ?_
                      refine lv_iload hx hb dX4_worth_173 (lv_at hl 1 rfl) ?_
                      refine lv_isub hx hb dX4_worth_175 ?_
                      cases h
                      exact z_iret C0 hr hlk hW hS dX4_worth_176
                    · replace h := z_f h hn5
                      by_cases hn6 : z10 = (6 : Int32)
                      · replace h := z_t h hn6
                        refine lv_tableIn (off := 72) (tgt := 177) hx hb dX4_worth_105 (z_swa hn6 2 6 4 (by decide)).1 (z_swa hn6 2 6 4 (by decide)).2.1 (by rw [(z_swa hn6 2 6 4 (by decide)).2.2]; rfl) (by decide) ?_
                        refine lv_iload hx hb dX4_worth_177 (lv_at hl 1 rfl) ?_
                        refine lv_iload hx hb dX4_worth_179 (lv_at hl 0 rfl) ?_
                        refine lv_iand hx hb dX4_worth_181 ?_
                        cases h
                        exact z_iret C0 hr hlk hW hS dX4_worth_182
                      · replace h := z_f h hn6
                        refine lv_tableOut (tgt := 183) hx hb dX4_worth_105 (z_sw 2 6 (by decide) (fun k h1 h2 => ?_)) (by decide) ?_
                        · rcases (show k = 2 ∨ k = 3 ∨ k = 4 ∨ k = 5 ∨ k = 6 by omega) with rfl | rfl | rfl | rfl | rfl
                          · exact hn2
                          · exact hn3
                          · exact hn4
                          · exact hn5
                          · exact hn6
                        · refine lv_iload hx hb dX4_worth_183 (lv_at hl 1 rfl) ?_
                          refine lv_iload hx hb dX4_worth_185 (lv_at hl 0 rfl) ?_
                          refine lv_ior hx hb dX4_worth_187 ?_
                          cases h
                          exact z_iret C0 hr hlk hW hS dX4_worth_188
            · replace h := z_f h hc
              clear hc
              refine lv_aload_n hx hb dX4_worth_86 rfl (lv_at hl 3 rfl) ?_
              refine z_getr (o := L 7) C0 hW fl_X4_34 hL.1 rfl (hL.2 7 (by decide) (by decide)).1 dX4_worth_87 ?_
              refine lv_iload hx hb dX4_worth_90 (lv_at hl 1 rfl) ?_
              replace h := z_if h
              obtain ⟨hin, h⟩ := h
              refine z_iald (n := (L 9)) C0 hW (hL.2 7 (by decide) (by decide)).2.1 (hL.2 7 (by decide) (by decide)).2.2 hin rfl dX4_worth_92 ?_
              clear hin
              refine lv_topi (fun z11 e1 => ?_)
              replace h := z_ly h e1
              clear e1
              refine lv_goto (tgt := 97) hx hb dX4_worth_93 (by decide) ?_
              refine lv_istore (lv' := [(6, .int z11), (5, .int (0 : Int32)), (4, .int z4), (3, .int z1), (0, .ref (b + (L 0))), (1, .int a1), (2, .ref (b + fa))]) hx hb dX4_worth_97 hl (by decide) rfl (fun ls hl => ?_)
              refine lv_aload_n hx hb dX4_worth_99 rfl (lv_at hl 4 rfl) ?_
              refine z_getr (o := L 4) C0 hW fl_X4_25 hL.1 rfl (hL.2 4 (by decide) (by decide)).1 dX4_worth_100 ?_
              refine lv_iload_n hx hb dX4_worth_103 rfl (lv_at hl 5 rfl) ?_
              replace h := z_if h
              obtain ⟨hin, h⟩ := h
              refine z_iald (n := (L 9)) C0 hW (hL.2 4 (by decide) (by decide)).2.1 (hL.2 4 (by decide) (by decide)).2.2 hin rfl dX4_worth_104 ?_
              clear hin
              refine lv_topi (fun z12 e1 => ?_)
              replace h := z_ly h e1
              clear e1
              by_cases hn2 : z12 = (2 : Int32)
              · replace h := z_t h hn2
                refine lv_tableIn (off := 35) (tgt := 140) hx hb dX4_worth_105 (z_swa hn2 2 6 0 (by decide)).1 (z_swa hn2 2 6 0 (by decide)).2.1 (by rw [(z_swa hn2 2 6 0 (by decide)).2.2]; rfl) (by decide) ?_
                refine lv_iload hx hb dX4_worth_140 (lv_at hl 1 rfl) ?_
                refine lv_iload hx hb dX4_worth_142 (lv_at hl 0 rfl) ?_
                refine lv_iadd hx hb dX4_worth_144 ?_
                cases h
                exact z_iret C0 hr hlk hW hS dX4_worth_145
              · replace h := z_f h hn2
                by_cases hn3 : z12 = (3 : Int32)
                · replace h := z_t h hn3
                  refine lv_tableIn (off := 41) (tgt := 146) hx hb dX4_worth_105 (z_swa hn3 2 6 1 (by decide)).1 (z_swa hn3 2 6 1 (by decide)).2.1 (by rw [(z_swa hn3 2 6 1 (by decide)).2.2]; rfl) (by decide) ?_
                  refine lv_iload hx hb dX4_worth_146 (lv_at hl 1 rfl) ?_
                  refine lv_iload hx hb dX4_worth_148 (lv_at hl 0 rfl) ?_
                  refine lv_icmp_ge (tgt := 157) hx hb dX4_worth_150 (by decide) (fun hc => ?_) (fun hc => ?_)
                  · replace h := z_t h hc
                    clear hc
                    refine lv_iconst (v := (0 : Int32)) hx hb dX4_worth_157 (by decide) ?_
                    cases h
                    exact z_iret C0 hr hlk hW hS dX4_worth_158
                  · replace h := z_f h hc
                    clear hc
                    refine lv_iconst (v := (1 : Int32)) hx hb dX4_worth_153 (by decide) ?_
                    refine lv_goto (tgt := 158) hx hb dX4_worth_154 (by decide) ?_
                    cases h
                    exact z_iret C0 hr hlk hW hS dX4_worth_158
                · replace h := z_f h hn3
                  by_cases hn4 : z12 = (4 : Int32)
                  · replace h := z_t h hn4
                    refine lv_tableIn (off := 54) (tgt := 159) hx hb dX4_worth_105 (z_swa hn4 2 6 2 (by decide)).1 (z_swa hn4 2 6 2 (by decide)).2.1 (by rw [(z_swa hn4 2 6 2 (by decide)).2.2]; rfl) (by decide) ?_
                    refine lv_iload hx hb dX4_worth_159 (lv_at hl 1 rfl) ?_
                    refine lv_iload hx hb dX4_worth_161 (lv_at hl 0 rfl) ?_
                    refine lv_icmp_le (tgt := 170) hx hb dX4_worth_163 (by decide) (fun hc => ?_) (fun hc => ?_)
                    · replace h := z_t h hc
                      clear hc
                      refine lv_iconst (v := (0 : Int32)) hx hb dX4_worth_170 (by decide) ?_
                      cases h
                      exact z_iret C0 hr hlk hW hS dX4_worth_171
                    · replace h := z_f h hc
                      clear hc
                      refine lv_iconst (v := (1 : Int32)) hx hb dX4_worth_166 (by decide) ?_
                      refine lv_goto (tgt := 171) hx hb dX4_worth_167 (by decide) ?_
                      cases h
                      exact z_iret C0 hr hlk hW hS dX4_worth_171
                  · replace h := z_f h hn4
                    by_cases hn5 : z12 = (5 : Int32)
                    · replace h := z_t h hn5
                      refine lv_tableIn (off := 67) (tgt := 172) hx hb dX4_worth_105 (z_swa hn5 2 6 3 (by decide)).1 (z_swa hn5 2 6 3 (by decide)).2.1 (by rw [(z_swa hn5 2 6 3 (by decide)).2.2]; rfl) (by decide) ?_
                      refine lv_iconst (v := (1 : Int32)) hx hb dX4_worth_172 (by decide) ?_
                      refine lv_iload hx hb dX4_worth_173 (lv_at hl 1 rfl) ?_
                      refine lv_isub hx hb dX4_worth_175 ?_
                      cases h
                      exact z_iret C0 hr hlk hW hS dX4_worth_176
                    · replace h := z_f h hn5
                      by_cases hn6 : z12 = (6 : Int32)
                      · replace h := z_t h hn6
                        refine lv_tableIn (off := 72) (tgt := 177) hx hb dX4_worth_105 (z_swa hn6 2 6 4 (by decide)).1 (z_swa hn6 2 6 4 (by decide)).2.1 (by rw [(z_swa hn6 2 6 4 (by decide)).2.2]; rfl) (by decide) ?_
                        refine lv_iload hx hb dX4_worth_177 (lv_at hl 1 rfl) ?_
                        refine lv_iload hx hb dX4_worth_179 (lv_at hl 0 rfl) ?_
                        refine lv_iand hx hb dX4_worth_181 ?_
                        cases h
                        exact z_iret C0 hr hlk hW hS dX4_worth_182
                      · replace h := z_f h hn6
                        refine lv_tableOut (tgt := 183) hx hb dX4_worth_105 (z_sw 2 6 (by decide) (fun k h1 h2 => ?_)) (by decide) ?_
                        · rcases (show k = 2 ∨ k = 3 ∨ k = 4 ∨ k = 5 ∨ k = 6 by omega) with rfl | rfl | rfl | rfl | rfl
                          · exact hn2
                          · exact hn3
                          · exact hn4
                          · exact hn5
                          · exact hn6
                        · refine lv_iload hx hb dX4_worth_183 (lv_at hl 1 rfl) ?_
                          refine lv_iload hx hb dX4_worth_185 (lv_at hl 0 rfl) ?_
                          refine lv_ior hx hb dX4_worth_187 ?_
                          cases h
                          exact z_iret C0 hr hlk hW hS dX4_worth_188
        · replace h := z_f h hc
          clear hc
          refine lv_aload_n hx hb dX4_worth_63 rfl (lv_at hl 2 rfl) ?_
          refine z_getr (o := L 7) C0 hW fl_X4_34 hL.1 rfl (hL.2 7 (by decide) (by decide)).1 dX4_worth_64 ?_
          refine lv_iload_n hx hb dX4_worth_67 rfl (lv_at hl 1 rfl) ?_
          replace h := z_if h
          obtain ⟨hin, h⟩ := h
          refine z_iald (n := (L 9)) C0 hW (hL.2 7 (by decide) (by decide)).2.1 (hL.2 7 (by decide) (by decide)).2.2 hin rfl dX4_worth_68 ?_
          clear hin
          refine lv_topi (fun z13 e1 => ?_)
          replace h := z_ly h e1
          clear e1
          refine lv_goto (tgt := 73) hx hb dX4_worth_69 (by decide) ?_
          refine lv_istore (lv' := [(5, .int z13), (4, .int z4), (3, .int z1), (0, .ref (b + (L 0))), (1, .int a1), (2, .ref (b + fa))]) hx hb dX4_worth_73 hl (by decide) rfl (fun ls hl => ?_)
          refine lv_iload hx hb dX4_worth_75 (lv_at hl 1 rfl) ?_
          refine lv_if_lt (tgt := 96) hx hb dX4_worth_77 (by decide) (fun hc => ?_) (fun hc => ?_)
          · replace h := z_t h hc
            clear hc
            refine lv_iconst (v := (0 : Int32)) hx hb dX4_worth_96 (by decide) ?_
            refine lv_istore (lv' := [(6, .int (0 : Int32)), (5, .int z13), (4, .int z4), (3, .int z1), (0, .ref (b + (L 0))), (1, .int a1), (2, .ref (b + fa))]) hx hb dX4_worth_97 hl (by decide) rfl (fun ls hl => ?_)
            refine lv_aload_n hx hb dX4_worth_99 rfl (lv_at hl 4 rfl) ?_
            refine z_getr (o := L 4) C0 hW fl_X4_25 hL.1 rfl (hL.2 4 (by decide) (by decide)).1 dX4_worth_100 ?_
            refine lv_iload_n hx hb dX4_worth_103 rfl (lv_at hl 5 rfl) ?_
            replace h := z_if h
            obtain ⟨hin, h⟩ := h
            refine z_iald (n := (L 9)) C0 hW (hL.2 4 (by decide) (by decide)).2.1 (hL.2 4 (by decide) (by decide)).2.2 hin rfl dX4_worth_104 ?_
            clear hin
            refine lv_topi (fun z14 e1 => ?_)
            replace h := z_ly h e1
            clear e1
            by_cases hn2 : z14 = (2 : Int32)
            · replace h := z_t h hn2
              refine lv_tableIn (off := 35) (tgt := 140) hx hb dX4_worth_105 (z_swa hn2 2 6 0 (by decide)).1 (z_swa hn2 2 6 0 (by decide)).2.1 (by rw [(z_swa hn2 2 6 0 (by decide)).2.2]; rfl) (by decide) ?_
              refine lv_iload hx hb dX4_worth_140 (lv_at hl 1 rfl) ?_
              refine lv_iload hx hb dX4_worth_142 (lv_at hl 0 rfl) ?_
              refine lv_iadd hx hb dX4_worth_144 ?_
              cases h
              exact z_iret C0 hr hlk hW hS dX4_worth_145
            · replace h := z_f h hn2
              by_cases hn3 : z14 = (3 : Int32)
              · replace h := z_t h hn3
                refine lv_tableIn (off := 41) (tgt := 146) hx hb dX4_worth_105 (z_swa hn3 2 6 1 (by decide)).1 (z_swa hn3 2 6 1 (by decide)).2.1 (by rw [(z_swa hn3 2 6 1 (by decide)).2.2]; rfl) (by decide) ?_
                refine lv_iload hx hb dX4_worth_146 (lv_at hl 1 rfl) ?_
                refine lv_iload hx hb dX4_worth_148 (lv_at hl 0 rfl) ?_
                refine lv_icmp_ge (tgt := 157) hx hb dX4_worth_150 (by decide) (fun hc => ?_) (fun hc => ?_)
                · replace h := z_t h hc
                  clear hc
                  refine lv_iconst (v := (0 : Int32)) hx hb dX4_worth_157 (by decide) ?_
                  cases h
                  exact z_iret C0 hr hlk hW hS dX4_worth_158
                · replace h := z_f h hc
                  clear hc
                  refine lv_iconst (v := (1 : Int32)) hx hb dX4_worth_153 (by decide) ?_
                  refine lv_goto (tgt := 158) hx hb dX4_worth_154 (by decide) ?_
                  cases h
                  exact z_iret C0 hr hlk hW hS dX4_worth_158
              · replace h := z_f h hn3
                by_cases hn4 : z14 = (4 : Int32)
                · replace h := z_t h hn4
                  refine lv_tableIn (off := 54) (tgt := 159) hx hb dX4_worth_105 (z_swa hn4 2 6 2 (by decide)).1 (z_swa hn4 2 6 2 (by decide)).2.1 (by rw [(z_swa hn4 2 6 2 (by decide)).2.2]; rfl) (by decide) ?_
                  refine lv_iload hx hb dX4_worth_159 (lv_at hl 1 rfl) ?_
                  refine lv_iload hx hb dX4_worth_161 (lv_at hl 0 rfl) ?_
                  refine lv_icmp_le (tgt := 170) hx hb dX4_worth_163 (by decide) (fun hc => ?_) (fun hc => ?_)
                  · replace h := z_t h hc
                    clear hc
                    refine lv_iconst (v := (0 : Int32)) hx hb dX4_worth_170 (by decide) ?_
                    cases h
                    exact z_iret C0 hr hlk hW hS dX4_worth_171
                  · replace h := z_f h hc
                    clear hc
                    refine lv_iconst (v := (1 : Int32)) hx hb dX4_worth_166 (by decide) ?_
                    refine lv_goto (tgt := 171) hx hb dX4_worth_167 (by decide) ?_
                    cases h
                    exact z_iret C0 hr hlk hW hS dX4_worth_171
                · replace h := z_f h hn4
                  by_cases hn5 : z14 = (5 : Int32)
                  · replace h := z_t h hn5
                    refine lv_tableIn (off := 67) (tgt := 172) hx hb dX4_worth_105 (z_swa hn5 2 6 3 (by decide)).1 (z_swa hn5 2 6 3 (by decide)).2.1 (by rw [(z_swa hn5 2 6 3 (by decide)).2.2]; rfl) (by decide) ?_
                    refine lv_iconst (v := (1 : Int32)) hx hb dX4_worth_172 (by decide) ?_
                    refine lv_iload hx hb dX4_worth_173 (lv_at hl 1 rfl) ?_
                    refine lv_isub hx hb dX4_worth_175 ?_
                    cases h
                    exact z_iret C0 hr hlk hW hS dX4_worth_176
                  · replace h := z_f h hn5
                    by_cases hn6 : z14 = (6 : Int32)
                    · replace h := z_t h hn6
                      refine lv_tableIn (off := 72) (tgt := 177) hx hb dX4_worth_105 (z_swa hn6 2 6 4 (by decide)).1 (z_swa hn6 2 6 4 (by decide)).2.1 (by rw [(z_swa hn6 2 6 4 (by decide)).2.2]; rfl) (by decide) ?_
                      refine lv_iload hx hb dX4_worth_177 (lv_at hl 1 rfl) ?_
                      refine lv_iload hx hb dX4_worth_179 (lv_at hl 0 rfl) ?_
                      refine lv_iand hx hb dX4_worth_181 ?_
                      cases h
                      exact z_iret C0 hr hlk hW hS dX4_worth_182
                    · replace h := z_f h hn6
                      refine lv_tableOut (tgt := 183) hx hb dX4_worth_105 (z_sw 2 6 (by decide) (fun k h1 h2 => ?_)) (by decide) ?_
                      · rcases (show k = 2 ∨ k = 3 ∨ k = 4 ∨ k = 5 ∨ k = 6 by omega) with rfl | rfl | rfl | rfl | rfl
                        · exact hn2
                        · exact hn3
                        · exact hn4
                        · exact hn5
                        · exact hn6
                      · refine lv_iload hx hb dX4_worth_183 (lv_at hl 1 rfl) ?_
                        refine lv_iload hx hb dX4_worth_185 (lv_at hl 0 rfl) ?_
                        refine lv_ior hx hb dX4_worth_187 ?_
                        cases h
                        exact z_iret C0 hr hlk hW hS dX4_worth_188
          · replace h := z_f h hc
            clear hc
            refine lv_iload hx hb dX4_worth_80 (lv_at hl 1 rfl) ?_
            refine lv_iload_n hx hb dX4_worth_82 rfl (lv_at hl 4 rfl) ?_
            refine lv_icmp_ge (tgt := 96) hx hb dX4_worth_83 (by decide) (fun hc => ?_) (fun hc => ?_)
            · replace h := z_t h hc
              clear hc
              refine lv_iconst (v := (0 : Int32)) hx hb dX4_worth_96 (by decide) ?_
              refine lv_istore (lv' := [(6, .int (0 : Int32)), (5, .int z13), (4, .int z4), (3, .int z1), (0, .ref (b + (L 0))), (1, .int a1), (2, .ref (b + fa))]) hx hb dX4_worth_97 hl (by decide) rfl (fun ls hl => ?_)
              refine lv_aload_n hx hb dX4_worth_99 rfl (lv_at hl 4 rfl) ?_
              refine z_getr (o := L 4) C0 hW fl_X4_25 hL.1 rfl (hL.2 4 (by decide) (by decide)).1 dX4_worth_100 ?_
              refine lv_iload_n hx hb dX4_worth_103 rfl (lv_at hl 5 rfl) ?_
              replace h := z_if h
              obtain ⟨hin, h⟩ := h
              refine z_iald (n := (L 9)) C0 hW (hL.2 4 (by decide) (by decide)).2.1 (hL.2 4 (by decide) (by decide)).2.2 hin rfl dX4_worth_104 ?_
              clear hin
              refine lv_topi (fun z15 e1 => ?_)
              replace h := z_ly h e1
              clear e1
              by_cases hn2 : z15 = (2 : Int32)
              · replace h := z_t h hn2
                refine lv_tableIn (off := 35) (tgt := 140) hx hb dX4_worth_105 (z_swa hn2 2 6 0 (by decide)).1 (z_swa hn2 2 6 0 (by decide)).2.1 (by rw [(z_swa hn2 2 6 0 (by decide)).2.2]; rfl) (by decide) ?_
                refine lv_iload hx hb dX4_worth_140 (lv_at hl 1 rfl) ?_
                refine lv_iload hx hb dX4_worth_142 (lv_at hl 0 rfl) ?_
                refine lv_iadd hx hb dX4_worth_144 ?_
                cases h
                exact z_iret C0 hr hlk hW hS dX4_worth_145
              · replace h := z_f h hn2
                by_cases hn3 : z15 = (3 : Int32)
                · replace h := z_t h hn3
                  refine lv_tableIn (off := 41) (tgt := 146) hx hb dX4_worth_105 (z_swa hn3 2 6 1 (by decide)).1 (z_swa hn3 2 6 1 (by decide)).2.1 (by rw [(z_swa hn3 2 6 1 (by decide)).2.2]; rfl) (by decide) ?_
                  refine lv_iload hx hb dX4_worth_146 (lv_at hl 1 rfl) ?_
                  refine lv_iload hx hb dX4_worth_148 (lv_at hl 0 rfl) ?_
                  refine lv_icmp_ge (tgt := 157) hx hb dX4_worth_150 (by decide) (fun hc => ?_) (fun hc => ?_)
                  · replace h := z_t h hc
                    clear hc
                    refine lv_iconst (v := (0 : Int32)) hx hb dX4_worth_157 (by decide) ?_
                    cases h
                    exact z_iret C0 hr hlk hW hS dX4_worth_158
                  · replace h := z_f h hc
                    clear hc
                    refine lv_iconst (v := (1 : Int32)) hx hb dX4_worth_153 (by decide) ?_
                    refine lv_goto (tgt := 158) hx hb dX4_worth_154 (by decide) ?_
                    cases h
                    exact z_iret C0 hr hlk hW hS dX4_worth_158
                · replace h := z_f h hn3
                  by_cases hn4 : z15 = (4 : Int32)
                  · replace h := z_t h hn4
                    refine lv_tableIn (off := 54) (tgt := 159) hx hb dX4_worth_105 (z_swa hn4 2 6 2 (by decide)).1 (z_swa hn4 2 6 2 (by decide)).2.1 (by rw [(z_swa hn4 2 6 2 (by decide)).2.2]; rfl) (by decide) ?_
                    refine lv_iload hx hb dX4_worth_159 (lv_at hl 1 rfl) ?_
                    refine lv_iload hx hb dX4_worth_161 (lv_at hl 0 rfl) ?_
                    refine lv_icmp_le (tgt := 170) hx hb dX4_worth_163 (by decide) (fun hc => ?_) (fun hc => ?_)
                    · replace h := z_t h hc
                      clear hc
                      refine lv_iconst (v := (0 : Int32)) hx hb dX4_worth_170 (by decide) ?_
                      cases h
                      exact z_iret C0 hr hlk hW hS dX4_worth_171
                    · replace h := z_f h hc
                      clear hc
                      refine lv_iconst (v := (1 : Int32)) hx hb dX4_worth_166 (by decide) ?_
                      refine lv_goto (tgt := 171) hx hb dX4_worth_167 (by decide) ?_
                      cases h
                      exact z_iret C0 hr hlk hW hS dX4_worth_171
                  · replace h := z_f h hn4
                    by_cases hn5 : z15 = (5 : Int32)
                    · replace h := z_t h hn5
                      refine lv_tableIn (off := 67) (tgt := 172) hx hb dX4_worth_105 (z_swa hn5 2 6 3 (by decide)).1 (z_swa hn5 2 6 3 (by decide)).2.1 (by rw [(z_swa hn5 2 6 3 (by decide)).2.2]; rfl) (by decide) ?_
                      refine lv_iconst (v := (1 : Int32)) hx hb dX4_worth_172 (by decide) ?_
                      refine lv_iload hx hb dX4_worth_173 (lv_at hl 1 rfl) ?_
                      refine lv_isub hx hb dX4_worth_175 ?_
                      cases h
                      exact z_iret C0 hr hlk hW hS dX4_worth_176
                    · replace h := z_f h hn5
                      by_cases hn6 : z15 = (6 : Int32)
                      · replace h := z_t h hn6
                        refine lv_tableIn (off := 72) (tgt := 177) hx hb dX4_worth_105 (z_swa hn6 2 6 4 (by decide)).1 (z_swa hn6 2 6 4 (by decide)).2.1 (by rw [(z_swa hn6 2 6 4 (by decide)).2.2]; rfl) (by decide) ?_
                        refine lv_iload hx hb dX4_worth_177 (lv_at hl 1 rfl) ?_
                        refine lv_iload hx hb dX4_worth_179 (lv_at hl 0 rfl) ?_
                        refine lv_iand hx hb dX4_worth_181 ?_
                        cases h
                        exact z_iret C0 hr hlk hW hS dX4_worth_182
                      · replace h := z_f h hn6
                        refine lv_tableOut (tgt := 183) hx hb dX4_worth_105 (z_sw 2 6 (by decide) (fun k h1 h2 => ?_)) (by decide) ?_
                        · rcases (show k = 2 ∨ k = 3 ∨ k = 4 ∨ k = 5 ∨ k = 6 by omega) with rfl | rfl | rfl | rfl | rfl
                          · exact hn2
                          · exact hn3
                          · exact hn4
                          · exact hn5
                          · exact hn6
                        · refine lv_iload hx hb dX4_worth_183 (lv_at hl 1 rfl) ?_
                          refine lv_iload hx hb dX4_worth_185 (lv_at hl 0 rfl) ?_
                          refine lv_ior hx hb dX4_worth_187 ?_
                          cases h
                          exact z_iret C0 hr hlk hW hS dX4_worth_188
            · replace h := z_f h hc
              clear hc
              refine lv_aload_n hx hb dX4_worth_86 rfl (lv_at hl 3 rfl) ?_
              refine z_getr (o := L 7) C0 hW fl_X4_34 hL.1 rfl (hL.2 7 (by decide) (by decide)).1 dX4_worth_87 ?_
              refine lv_iload hx hb dX4_worth_90 (lv_at hl 1 rfl) ?_
              replace h := z_if h
              obtain ⟨hin, h⟩ := h
              refine z_iald (n := (L 9)) C0 hW (hL.2 7 (by decide) (by decide)).2.1 (hL.2 7 (by decide) (by decide)).2.2 hin rfl dX4_worth_92 ?_
              clear hin
              refine lv_topi (fun z16 e1 => ?_)
              replace h := z_ly h e1
              clear e1
              refine lv_goto (tgt := 97) hx hb dX4_worth_93 (by decide) ?_
              refine lv_istore (lv' := [(6, .int z16), (5, .int z13), (4, .int z4), (3, .int z1), (0, .ref (b + (L 0))), (1, .int a1), (2, .ref (b + fa))]) hx hb dX4_worth_97 hl (by decide) rfl (fun ls hl => ?_)
              refine lv_aload_n hx hb dX4_worth_99 rfl (lv_at hl 4 rfl) ?_
              refine z_getr (o := L 4) C0 hW fl_X4_25 hL.1 rfl (hL.2 4 (by decide) (by decide)).1 dX4_worth_100 ?_
              refine lv_iload_n hx hb dX4_worth_103 rfl (lv_at hl 5 rfl) ?_
              replace h := z_if h
              obtain ⟨hin, h⟩ := h
              refine z_iald (n := (L 9)) C0 hW (hL.2 4 (by decide) (by decide)).2.1 (hL.2 4 (by decide) (by decide)).2.2 hin rfl dX4_worth_104 ?_
              clear hin
              refine lv_topi (fun z17 e1 => ?_)
              replace h := z_ly h e1
              clear e1
              by_cases hn2 : z17 = (2 : Int32)
              · replace h := z_t h hn2
                refine lv_tableIn (off := 35) (tgt := 140) hx hb dX4_worth_105 (z_swa hn2 2 6 0 (by decide)).1 (z_swa hn2 2 6 0 (by decide)).2.1 (by rw [(z_swa hn2 2 6 0 (by decide)).2.2]; rfl) (by decide) ?_
                refine lv_iload hx hb dX4_worth_140 (lv_at hl 1 rfl) ?_
                refine lv_iload hx hb dX4_worth_142 (lv_at hl 0 rfl) ?_
                refine lv_iadd hx hb dX4_worth_144 ?_
                cases h
                exact z_iret C0 hr hlk hW hS dX4_worth_145
              · replace h := z_f h hn2
                by_cases hn3 : z17 = (3 : Int32)
                · replace h := z_t h hn3
                  refine lv_tableIn (off := 41) (tgt := 146) hx hb dX4_worth_105 (z_swa hn3 2 6 1 (by decide)).1 (z_swa hn3 2 6 1 (by decide)).2.1 (by rw [(z_swa hn3 2 6 1 (by decide)).2.2]; rfl) (by decide) ?_
                  refine lv_iload hx hb dX4_worth_146 (lv_at hl 1 rfl) ?_
                  refine lv_iload hx hb dX4_worth_148 (lv_at hl 0 rfl) ?_
                  refine lv_icmp_ge (tgt := 157) hx hb dX4_worth_150 (by decide) (fun hc => ?_) (fun hc => ?_)
                  · replace h := z_t h hc
                    clear hc
                    refine lv_iconst (v := (0 : Int32)) hx hb dX4_worth_157 (by decide) ?_
                    cases h
                    exact z_iret C0 hr hlk hW hS dX4_worth_158
                  · replace h := z_f h hc
                    clear hc
                    refine lv_iconst (v := (1 : Int32)) hx hb dX4_worth_153 (by decide) ?_
                    refine lv_goto (tgt := 158) hx hb dX4_worth_154 (by decide) ?_
                    cases h
                    exact z_iret C0 hr hlk hW hS dX4_worth_158
                · replace h := z_f h hn3
                  by_cases hn4 : z17 = (4 : Int32)
                  · replace h := z_t h hn4
                    refine lv_tableIn (off := 54) (tgt := 159) hx hb dX4_worth_105 (z_swa hn4 2 6 2 (by decide)).1 (z_swa hn4 2 6 2 (by decide)).2.1 (by rw [(z_swa hn4 2 6 2 (by decide)).2.2]; rfl) (by decide) ?_
                    refine lv_iload hx hb dX4_worth_159 (lv_at hl 1 rfl) ?_
                    refine lv_iload hx hb dX4_worth_161 (lv_at hl 0 rfl) ?_
                    refine lv_icmp_le (tgt := 170) hx hb dX4_worth_163 (by decide) (fun hc => ?_) (fun hc => ?_)
                    · replace h := z_t h hc
                      clear hc
                      refine lv_iconst (v := (0 : Int32)) hx hb dX4_worth_170 (by decide) ?_
                      cases h
                      exact z_iret C0 hr hlk hW hS dX4_worth_171
                    · replace h := z_f h hc
                      clear hc
                      refine lv_iconst (v := (1 : Int32)) hx hb dX4_worth_166 (by decide) ?_
                      refine lv_goto (tgt := 171) hx hb dX4_worth_167 (by decide) ?_
                      cases h
                      exact z_iret C0 hr hlk hW hS dX4_worth_171
                  · replace h := z_f h hn4
                    by_cases hn5 : z17 = (5 : Int32)
                    · replace h := z_t h hn5
                      refine lv_tableIn (off := 67) (tgt := 172) hx hb dX4_worth_105 (z_swa hn5 2 6 3 (by decide)).1 (z_swa hn5 2 6 3 (by decide)).2.1 (by rw [(z_swa hn5 2 6 3 (by decide)).2.2]; rfl) (by decide) ?_
                      refine lv_iconst (v := (1 : Int32)) hx hb dX4_worth_172 (by decide) ?_
                      refine lv_iload hx hb dX4_worth_173 (lv_at hl 1 rfl) ?_
                      refine lv_isub hx hb dX4_worth_175 ?_
                      cases h
                      exact z_iret C0 hr hlk hW hS dX4_worth_176
                    · replace h := z_f h hn5
                      by_cases hn6 : z17 = (6 : Int32)
                      · replace h := z_t h hn6
                        refine lv_tableIn (off := 72) (tgt := 177) hx hb dX4_worth_105 (z_swa hn6 2 6 4 (by decide)).1 (z_swa hn6 2 6 4 (by decide)).2.1 (by rw [(z_swa hn6 2 6 4 (by decide)).2.2]; rfl) (by decide) ?_
                        refine lv_iload hx hb dX4_worth_177 (lv_at hl 1 rfl) ?_
                        refine lv_iload hx hb dX4_worth_179 (lv_at hl 0 rfl) ?_
                        refine lv_iand hx hb dX4_worth_181 ?_
                        cases h
                        exact z_iret C0 hr hlk hW hS dX4_worth_182
                      · replace h := z_f h hn6
                        refine lv_tableOut (tgt := 183) hx hb dX4_worth_105 (z_sw 2 6 (by decide) (fun k h1 h2 => ?_)) (by decide) ?_
                        · rcases (show k = 2 ∨ k = 3 ∨ k = 4 ∨ k = 5 ∨ k = 6 by omega) with rfl | rfl | rfl | rfl | rfl
                          · exact hn2
                          · exact hn3
                          · exact hn4
                          · exact hn5
                          · exact hn6
                        · refine lv_iload hx hb dX4_worth_183 (lv_at hl 1 rfl) ?_
                          refine lv_iload hx hb dX4_worth_185 (lv_at hl 0 rfl) ?_
                          refine lv_ior hx hb dX4_worth_187 ?_
                          cases h
                          exact z_iret C0 hr hlk hW hS dX4_worth_188
    · replace h := z_t h hc
      clear hc
      refine lv_iload_n hx hb dX4_worth_28 rfl (lv_at hl 0 rfl) ?_
      refine lv_if_lt (tgt := 44) hx hb dX4_worth_29 (by decide) (fun hc => ?_) (fun hc => ?_)
      · replace h := z_t h hc
        clear hc
        refine lv_iconst (v := (0 : Int32)) hx hb dX4_worth_44 (by decide) ?_
        cases h
        exact z_iret C0 hr hlk hW hS dX4_worth_45
      · replace h := z_f h hc
        clear hc
        refine lv_iload_n hx hb dX4_worth_32 rfl (lv_at hl 0 rfl) ?_
        refine lv_aload_n hx hb dX4_worth_33 rfl (lv_at hl 3 rfl) ?_
        refine z_alen (n := 9) (v := (9 : Int32)) C0 hW hfa.1 hfa.2 rfl dX4_worth_34 ?_
        refine lv_icmp_ge (tgt := 44) hx hb dX4_worth_35 (by decide) (fun hc => ?_) (fun hc => ?_)
        · replace h := z_t h hc
          clear hc
          refine lv_iconst (v := (0 : Int32)) hx hb dX4_worth_44 (by decide) ?_
          cases h
          exact z_iret C0 hr hlk hW hS dX4_worth_45
        · replace h := z_f h hc
          clear hc
          refine lv_aload_n hx hb dX4_worth_38 rfl (lv_at hl 3 rfl) ?_
          refine lv_iload_n hx hb dX4_worth_39 rfl (lv_at hl 0 rfl) ?_
          replace h := z_if h
          obtain ⟨hin, h⟩ := h
          refine z_iald (n := 9) C0 hW hfa.1 hfa.2 hin rfl dX4_worth_40 ?_
          clear hin
          refine lv_topi (fun z18 e1 => ?_)
          replace h := z_ly h e1
          clear e1
          refine lv_goto (tgt := 45) hx hb dX4_worth_41 (by decide) ?_
          cases h
          exact z_iret C0 hr hlk hW hS dX4_worth_45
  · replace h := z_t h hc
    clear hc
    refine lv_iload_n hx hb dX4_worth_16 rfl (lv_at hl 0 rfl) ?_
    cases h
    exact z_iret C0 hr hlk hW hS dX4_worth_17
def f_X9_places (w : Nat) (L : Nat → Nat) (a1 : Int32) (u : zU) : Int32 :=
  (a1 - (u w 14)) &&& (7 : Int32)
theorem f_X9_places_e (w : Nat) (L : Nat → Nat) (a1 : Int32) (u : zU) : f_X9_places w L a1 u = (a1 - (u w 14)) &&& (7 : Int32) := rfl
set_option maxRecDepth 100000 in
set_option maxHeartbeats 4000000 in
theorem c_X9_places (l : Launch) (D : zD) (A : Nat → Prop) (b : Nat) (g : zG) (w : Nat) (L : Nat → Nat) (hw : zWh g w L) (a1 : Int32) (u : zU) {v : Int32} (h : f_X9_places w L a1 u = v) : z_M l D A b g yX9_places cX9_places 2 (some .int) 0 0 [.ref (b + w), .int a1] u (some (.int v)) u := by
  refine z_enter (by decide) (Nat.le_of_ble_eq_true rfl) ?_
  intro p e s m below meth c ls C0 hr hml hlk hW hS hl
  have hl : lv_has ls 2 [(0, .ref (b + w)), (1, .int a1)] := hl
  have hx := C0.1
  have hb := C0.2.1
  rw [f_X9_places_e] at h
  refine lv_iload_n hx hb dX9_places_0 rfl (lv_at hl 1 rfl) ?_
  refine lv_aload_n hx hb dX9_places_1 rfl (lv_at hl 0 rfl) ?_
  refine z_geti C0 hW fl_X9_55 hw.1 rfl dX9_places_2 ?_
  refine lv_isub hx hb dX9_places_5 ?_
  refine lv_bipush (v := (7 : Int32)) hx hb dX9_places_6 (by decide) ?_
  refine lv_iand hx hb dX9_places_8 ?_
  cases h
  exact z_iret C0 hr hlk hW hS dX9_places_9
def f_X9_height (w : Nat) (L : Nat → Nat) (a1 : Int32) (u : zU) : Int32 :=
  z_let (f_X9_places w L a1 u) (fun r1 => z_let (z_abs ((4 : Int32) - r1)) (fun z2 => z2))
theorem f_X9_height_e (w : Nat) (L : Nat → Nat) (a1 : Int32) (u : zU) : f_X9_height w L a1 u = z_let (f_X9_places w L a1 u) (fun r1 => z_let (z_abs ((4 : Int32) - r1)) (fun z2 => z2)) := rfl
set_option maxRecDepth 100000 in
set_option maxHeartbeats 4000000 in
theorem c_X9_height (l : Launch) (D : zD) (A : Nat → Prop) (b : Nat) (g : zG) (w : Nat) (L : Nat → Nat) (hw : zWh g w L) (a1 : Int32) (u : zU) {v : Int32} (h : f_X9_height w L a1 u = v) : z_M l D A b g yX9_height cX9_height 2 (some .int) 1 21 [.ref (b + w), .int a1] u (some (.int v)) u := by
  refine z_enter (by decide) (Nat.le_of_ble_eq_true rfl) ?_
  intro p e s m below meth c ls C0 hr hml hlk hW hS hl
  have hl : lv_has ls 2 [(0, .ref (b + w)), (1, .int a1)] := hl
  have hx := C0.1
  have hb := C0.2.1
  rw [f_X9_height_e] at h
  refine lv_iconst (v := (4 : Int32)) hx hb dX9_height_0 (by decide) ?_
  refine lv_aload_n hx hb dX9_height_1 rfl (lv_at hl 0 rfl) ?_
  refine lv_iload_n hx hb dX9_height_2 rfl (lv_at hl 1 rfl) ?_
  obtain ⟨r1, hq⟩ : ∃ y, f_X9_places w L a1 u = y := ⟨_, rfl⟩
  replace h := z_lz h hq
  refine z_cvi (As := [.int a1]) C0 hml hl.1 hW hS (c_X9_places l D A b g w L hw a1 u hq) mv_X9_83 hw.1 ⟨Nat.le_of_ble_eq_true rfl, Nat.le_of_ble_eq_true rfl⟩ rfl rfl (Nat.le_of_ble_eq_true rfl) dX9_height_3 (fun H locs hW hS => ?_)
  clear hq
  refine lv_isub hx hb dX9_height_6 ?_
  refine va_mabs hx hb (hml.trans hl.1.symm) C0.2.2.2.1 (C0.2.2.1 _ w_mm_X9_87) (C0.2.2.1 _ w_mst_abs) (C0.2.2.1 _ w_min_Math) (C0.2.2.1 _ w_mco_abs) (Nat.le_of_ble_eq_true rfl) (Nat.le_of_ble_eq_true rfl) (Nat.zero_le _) (Nat.zero_le _) dX9_height_7 ?_
  refine lv_topi (fun z2 e1 => ?_)
  replace h := z_ly h e1
  clear e1
  cases h
  exact z_iret C0 hr hlk hW hS dX9_height_10
def f_X9_costOf (w : Nat) (L : Nat → Nat) (a1 : Int32) (u : zU) : Int32 :=
  z_let (f_X9_places w L a1 u) (fun r1 => (10 : Int32) * r1)
theorem f_X9_costOf_e (w : Nat) (L : Nat → Nat) (a1 : Int32) (u : zU) : f_X9_costOf w L a1 u = z_let (f_X9_places w L a1 u) (fun r1 => (10 : Int32) * r1) := rfl
set_option maxRecDepth 100000 in
set_option maxHeartbeats 4000000 in
theorem c_X9_costOf (l : Launch) (D : zD) (A : Nat → Prop) (b : Nat) (g : zG) (w : Nat) (L : Nat → Nat) (hw : zWh g w L) (a1 : Int32) (u : zU) {v : Int32} (h : f_X9_costOf w L a1 u = v) : z_M l D A b g yX9_costOf cX9_costOf 2 (some .int) 1 21 [.ref (b + w), .int a1] u (some (.int v)) u := by
  refine z_enter (by decide) (Nat.le_of_ble_eq_true rfl) ?_
  intro p e s m below meth c ls C0 hr hml hlk hW hS hl
  have hl : lv_has ls 2 [(0, .ref (b + w)), (1, .int a1)] := hl
  have hx := C0.1
  have hb := C0.2.1
  rw [f_X9_costOf_e] at h
  refine lv_bipush (v := (10 : Int32)) hx hb dX9_costOf_0 (by decide) ?_
  refine lv_aload_n hx hb dX9_costOf_2 rfl (lv_at hl 0 rfl) ?_
  refine lv_iload_n hx hb dX9_costOf_3 rfl (lv_at hl 1 rfl) ?_
  obtain ⟨r1, hq⟩ : ∃ y, f_X9_places w L a1 u = y := ⟨_, rfl⟩
  replace h := z_lz h hq
  refine z_cvi (As := [.int a1]) C0 hml hl.1 hW hS (c_X9_places l D A b g w L hw a1 u hq) mv_X9_83 hw.1 ⟨Nat.le_of_ble_eq_true rfl, Nat.le_of_ble_eq_true rfl⟩ rfl rfl (Nat.le_of_ble_eq_true rfl) dX9_costOf_4 (fun H locs hW hS => ?_)
  clear hq
  refine lv_imul hx hb dX9_costOf_7 ?_
  cases h
  exact z_iret C0 hr hlk hW hS dX9_costOf_8
def f_X9_lever (w : Nat) (L : Nat → Nat) (a1 : Int32) (u : zU) : Int32 :=
  z_let (f_X9_places w L a1 u) (fun r1 => z_let (r1 &&& (3 : Int32)) (fun z2 => if z2 = 0 then ((0 : Int32)) else (z_let (f_X9_places w L a1 u) (fun r3 => if (4 : Int32) ≤ r3 then ((-1 : Int32)) else ((1 : Int32))))))
theorem f_X9_lever_e (w : Nat) (L : Nat → Nat) (a1 : Int32) (u : zU) : f_X9_lever w L a1 u = z_let (f_X9_places w L a1 u) (fun r1 => z_let (r1 &&& (3 : Int32)) (fun z2 => if z2 = 0 then ((0 : Int32)) else (z_let (f_X9_places w L a1 u) (fun r3 => if (4 : Int32) ≤ r3 then ((-1 : Int32)) else ((1 : Int32)))))) := rfl
set_option maxRecDepth 100000 in
set_option maxHeartbeats 4000000 in
theorem c_X9_lever (l : Launch) (D : zD) (A : Nat → Prop) (b : Nat) (g : zG) (w : Nat) (L : Nat → Nat) (hw : zWh g w L) (a1 : Int32) (u : zU) {v : Int32} (h : f_X9_lever w L a1 u = v) : z_M l D A b g yX9_lever cX9_lever 3 (some .int) 1 21 [.ref (b + w), .int a1] u (some (.int v)) u := by
  refine z_enter (by decide) (Nat.le_of_ble_eq_true rfl) ?_
  intro p e s m below meth c ls C0 hr hml hlk hW hS hl
  have hl : lv_has ls 3 [(0, .ref (b + w)), (1, .int a1)] := hl
  have hx := C0.1
  have hb := C0.2.1
  rw [f_X9_lever_e] at h
  refine lv_aload_n hx hb dX9_lever_0 rfl (lv_at hl 0 rfl) ?_
  refine lv_iload_n hx hb dX9_lever_1 rfl (lv_at hl 1 rfl) ?_
  obtain ⟨r1, hq⟩ : ∃ y, f_X9_places w L a1 u = y := ⟨_, rfl⟩
  replace h := z_lz h hq
  refine z_cvi (As := [.int a1]) C0 hml hl.1 hW hS (c_X9_places l D A b g w L hw a1 u hq) mv_X9_83 hw.1 ⟨Nat.le_of_ble_eq_true rfl, Nat.le_of_ble_eq_true rfl⟩ rfl rfl (Nat.le_of_ble_eq_true rfl) dX9_lever_2 (fun H locs hW hS => ?_)
  clear hq
  refine lv_iconst (v := (3 : Int32)) hx hb dX9_lever_5 (by decide) ?_
  refine lv_iand hx hb dX9_lever_6 ?_
  refine lv_topi (fun z2 e1 => ?_)
  replace h := z_ly h e1
  clear e1
  refine lv_istore_n (lv' := [(2, .int z2), (0, .ref (b + w)), (1, .int a1)]) hx hb dX9_lever_7 rfl hl (by decide) rfl (fun ls hl => ?_)
  refine lv_iload_n hx hb dX9_lever_8 rfl (lv_at hl 0 rfl) ?_
  refine lv_if_ne (tgt := 14) hx hb dX9_lever_9 (by decide) (fun hc => ?_) (fun hc => ?_)
  · replace h := z_f h hc
    clear hc
    refine lv_aload_n hx hb dX9_lever_14 rfl (lv_at hl 1 rfl) ?_
    refine lv_iload_n hx hb dX9_lever_15 rfl (lv_at hl 2 rfl) ?_
    obtain ⟨r3, hq⟩ : ∃ y, f_X9_places w L a1 u = y := ⟨_, rfl⟩
    replace h := z_lz h hq
    refine z_cvi (As := [.int a1]) C0 hml hl.1 hW hS (c_X9_places l D A b g w L hw a1 u hq) mv_X9_83 hw.1 ⟨Nat.le_of_ble_eq_true rfl, Nat.le_of_ble_eq_true rfl⟩ rfl rfl (Nat.le_of_ble_eq_true rfl) dX9_lever_16 (fun H locs hW hS => ?_)
    clear hq
    refine lv_iconst (v := (4 : Int32)) hx hb dX9_lever_19 (by decide) ?_
    refine lv_icmp_ge (tgt := 27) hx hb dX9_lever_20 (by decide) (fun hc => ?_) (fun hc => ?_)
    · replace h := z_t h hc
      clear hc
      refine lv_iconst (v := (-1 : Int32)) hx hb dX9_lever_27 (by decide) ?_
      cases h
      exact z_iret C0 hr hlk hW hS dX9_lever_28
    · replace h := z_f h hc
      clear hc
      refine lv_iconst (v := (1 : Int32)) hx hb dX9_lever_23 (by decide) ?_
      refine lv_goto (tgt := 28) hx hb dX9_lever_24 (by decide) ?_
      cases h
      exact z_iret C0 hr hlk hW hS dX9_lever_28
  · replace h := z_t h hc
    clear hc
    refine lv_iconst (v := (0 : Int32)) hx hb dX9_lever_12 (by decide) ?_
    cases h
    exact z_iret C0 hr hlk hW hS dX9_lever_13
def f_X9_ridersIn_4 (w : Nat) (L : Nat → Nat) : Nat → Int32 → Int32 → Int32 → zU → Option (Int32)
  | 0, _, _, _, _ => none
  | n + 1, x1, x2, x3, u =>
    if (u w 8) ≤ x3 then (some x2) else (if z_in x3 8 = true then (z_let (u (w + 1) (x3).toNatClampNeg) (fun z1 => if z1 = x1 then (z_let (x2 ||| ((1 : Int32) <<< (x3 &&& 31))) (fun z2 => f_X9_ridersIn_4 w L n x1 z2 (x3 + (1 : Int32)) u)) else (f_X9_ridersIn_4 w L n x1 x2 (x3 + (1 : Int32)) u))) else none)
theorem f_X9_ridersIn_4_s (w : Nat) (L : Nat → Nat) (n : Nat) (x1 : Int32) (x2 : Int32) (x3 : Int32) (u : zU) : f_X9_ridersIn_4 w L (n + 1) x1 x2 x3 u = if (u w 8) ≤ x3 then (some x2) else (if z_in x3 8 = true then (z_let (u (w + 1) (x3).toNatClampNeg) (fun z1 => if z1 = x1 then (z_let (x2 ||| ((1 : Int32) <<< (x3 &&& 31))) (fun z2 => f_X9_ridersIn_4 w L n x1 z2 (x3 + (1 : Int32)) u)) else (f_X9_ridersIn_4 w L n x1 x2 (x3 + (1 : Int32)) u))) else none) := rfl
def f_X9_ridersIn (w : Nat) (L : Nat → Nat) (a1 : Int32) (u : zU) : Option (Int32) :=
  f_X9_ridersIn_4 w L 5000 a1 (0 : Int32) (0 : Int32) u
set_option maxRecDepth 100000 in
set_option maxHeartbeats 4000000 in
theorem l_X9_ridersIn_4 {l : Launch} {D : zD} {A : Nat → Prop} {b : Nat} {p : Program} {e : Env} {s : State} {m : MethodId} {args : Array Value} {below : List Frame} {meth : Method} {c : Code} {g : zG} {w : Nat} {L : Nat → Nat} {v : Int32} {u : zU} (C0 : z_C p c cX9_ridersIn s m args yX9_ridersIn.cls D A) (hr : meth.sig.returnType = (some .int)) (hml : c.maxLocals = 4) (hlk : meth.locks = false) (hw : zWh g w L) : ∀ (n : Nat) (x1 : Int32) (x2 : Int32) (x3 : Int32) (H : Heap) (locs : List Loc) (ls : Array Slot), f_X9_ridersIn_4 w L n x1 x2 x3 u = some v → z_W D A b g u H → va_S A s.heap H locs → lv_has ls 4 [(0, .ref (b + w)), (1, .int x1), (2, .int x2), (3, .int x3)] → W p l e { frames := 0, cells := 0, slots := 0, locals := 0 } s m args below meth c H locs 0 0 (z_End D A b g below args s (some (.int v)) u) (F0 m 4 ls []) := by
  have hx := C0.1
  have hb := C0.2.1
  intro n
  induction n with
  | zero => intro x1 x2 x3 H locs ls h hW hS hl; cases h
  | succ n ih =>
    intro x1 x2 x3 H locs ls h hW hS hl
    rw [f_X9_ridersIn_4_s] at h
    refine lv_iload_n hx hb dX9_ridersIn_4 rfl (lv_at hl 3 rfl) ?_
    refine lv_aload_n hx hb dX9_ridersIn_5 rfl (lv_at hl 0 rfl) ?_
    refine z_geti C0 hW fl_X9_36 hw.1 rfl dX9_ridersIn_6 ?_
    refine lv_icmp_ge (tgt := 34) hx hb dX9_ridersIn_9 (by decide) (fun hc => ?_) (fun hc => ?_)
    · replace h := z_t h hc
      clear hc
      refine lv_iload_n hx hb dX9_ridersIn_34 rfl (lv_at hl 2 rfl) ?_
      cases h
      exact z_iret C0 hr hlk hW hS dX9_ridersIn_35
    · replace h := z_f h hc
      clear hc
      refine lv_aload_n hx hb dX9_ridersIn_12 rfl (lv_at hl 0 rfl) ?_
      refine z_getr (o := w + 1) C0 hW fl_X9_9 hw.1 rfl (hw.2.1 0 (by decide)).1 dX9_ridersIn_13 ?_
      refine lv_iload_n hx hb dX9_ridersIn_16 rfl (lv_at hl 3 rfl) ?_
      replace h := z_if h
      obtain ⟨hin, h⟩ := h
      refine z_iald (n := 8) C0 hW (hw.2.1 0 (by decide)).2.1 (hw.2.1 0 (by decide)).2.2 hin rfl dX9_ridersIn_17 ?_
      clear hin
      refine lv_topi (fun z1 e1 => ?_)
      replace h := z_ly h e1
      clear e1
      refine lv_iload_n hx hb dX9_ridersIn_18 rfl (lv_at hl 1 rfl) ?_
      refine lv_icmp_ne (tgt := 28) hx hb dX9_ridersIn_19 (by decide) (fun hc => ?_) (fun hc => ?_)
      · replace h := z_f h hc
        clear hc
        refine lv_iinc (v := x3 + (1 : Int32)) (lv' := [(3, .int (x3 + (1 : Int32))), (0, .ref (b + w)), (1, .int x1), (2, .int x2)]) hx hb dX9_ridersIn_28 hl (k := 3) rfl rfl (by decide) rfl (fun ls hl => ?_)
        refine lv_goto (tgt := 4) hx hb dX9_ridersIn_31 (by decide) ?_
        exact ih _ _ _ _ _ _ h hW hS (lv_sub hl [1, 2, 3, 0] rfl)
      · replace h := z_t h hc
        clear hc
        refine lv_iload_n hx hb dX9_ridersIn_22 rfl (lv_at hl 2 rfl) ?_
        refine lv_iconst (v := (1 : Int32)) hx hb dX9_ridersIn_23 (by decide) ?_
        refine lv_iload_n hx hb dX9_ridersIn_24 rfl (lv_at hl 3 rfl) ?_
        refine lv_ishl hx hb dX9_ridersIn_25 ?_
        refine lv_ior hx hb dX9_ridersIn_26 ?_
        refine lv_topi (fun z2 e1 => ?_)
        replace h := z_ly h e1
        clear e1
        refine lv_istore_n (lv' := [(2, .int z2), (0, .ref (b + w)), (1, .int x1), (3, .int x3)]) hx hb dX9_ridersIn_27 rfl hl (by decide) rfl (fun ls hl => ?_)
        refine lv_iinc (v := x3 + (1 : Int32)) (lv' := [(3, .int (x3 + (1 : Int32))), (2, .int z2), (0, .ref (b + w)), (1, .int x1)]) hx hb dX9_ridersIn_28 hl (k := 3) rfl rfl (by decide) rfl (fun ls hl => ?_)
        refine lv_goto (tgt := 4) hx hb dX9_ridersIn_31 (by decide) ?_
        exact ih _ _ _ _ _ _ h hW hS (lv_sub hl [2, 3, 1, 0] rfl)
theorem f_X9_ridersIn_e (w : Nat) (L : Nat → Nat) (a1 : Int32) (u : zU) : f_X9_ridersIn w L a1 u = f_X9_ridersIn_4 w L 5000 a1 (0 : Int32) (0 : Int32) u := rfl
set_option maxRecDepth 100000 in
set_option maxHeartbeats 4000000 in
theorem c_X9_ridersIn (l : Launch) (D : zD) (A : Nat → Prop) (b : Nat) (g : zG) (w : Nat) (L : Nat → Nat) (hw : zWh g w L) (a1 : Int32) (u : zU) {v : Int32} (h : f_X9_ridersIn w L a1 u = some v) : z_M l D A b g yX9_ridersIn cX9_ridersIn 4 (some .int) 0 0 [.ref (b + w), .int a1] u (some (.int v)) u := by
  refine z_enter (by decide) (Nat.le_of_ble_eq_true rfl) ?_
  intro p e s m below meth c ls C0 hr hml hlk hW hS hl
  have hl : lv_has ls 4 [(0, .ref (b + w)), (1, .int a1)] := hl
  have hx := C0.1
  have hb := C0.2.1
  rw [f_X9_ridersIn_e] at h
  refine lv_iconst (v := (0 : Int32)) hx hb dX9_ridersIn_0 (by decide) ?_
  refine lv_istore_n (lv' := [(2, .int (0 : Int32)), (0, .ref (b + w)), (1, .int a1)]) hx hb dX9_ridersIn_1 rfl hl (by decide) rfl (fun ls hl => ?_)
  refine lv_iconst (v := (0 : Int32)) hx hb dX9_ridersIn_2 (by decide) ?_
  refine lv_istore_n (lv' := [(3, .int (0 : Int32)), (2, .int (0 : Int32)), (0, .ref (b + w)), (1, .int a1)]) hx hb dX9_ridersIn_3 rfl hl (by decide) rfl (fun ls hl => ?_)
  exact l_X9_ridersIn_4 C0 hr hml hlk hw 5000 _ _ _ _ _ _ h hW hS (lv_sub hl [2, 3, 1, 0] rfl)
def f_X9_firstIn_2 (w : Nat) (L : Nat → Nat) : Nat → Int32 → Int32 → zU → Option (Int32)
  | 0, _, _, _ => none
  | n + 1, x1, x2, u =>
    if (u w 8) ≤ x2 then (some (-1 : Int32)) else (if z_in x2 8 = true then (z_let (u (w + 1) (x2).toNatClampNeg) (fun z1 => if z1 = x1 then (some x2) else (f_X9_firstIn_2 w L n x1 (x2 + (1 : Int32)) u))) else none)
theorem f_X9_firstIn_2_s (w : Nat) (L : Nat → Nat) (n : Nat) (x1 : Int32) (x2 : Int32) (u : zU) : f_X9_firstIn_2 w L (n + 1) x1 x2 u = if (u w 8) ≤ x2 then (some (-1 : Int32)) else (if z_in x2 8 = true then (z_let (u (w + 1) (x2).toNatClampNeg) (fun z1 => if z1 = x1 then (some x2) else (f_X9_firstIn_2 w L n x1 (x2 + (1 : Int32)) u))) else none) := rfl
def f_X9_firstIn (w : Nat) (L : Nat → Nat) (a1 : Int32) (u : zU) : Option (Int32) :=
  f_X9_firstIn_2 w L 5000 a1 (0 : Int32) u
set_option maxRecDepth 100000 in
set_option maxHeartbeats 4000000 in
theorem l_X9_firstIn_2 {l : Launch} {D : zD} {A : Nat → Prop} {b : Nat} {p : Program} {e : Env} {s : State} {m : MethodId} {args : Array Value} {below : List Frame} {meth : Method} {c : Code} {g : zG} {w : Nat} {L : Nat → Nat} {v : Int32} {u : zU} (C0 : z_C p c cX9_firstIn s m args yX9_firstIn.cls D A) (hr : meth.sig.returnType = (some .int)) (hml : c.maxLocals = 3) (hlk : meth.locks = false) (hw : zWh g w L) : ∀ (n : Nat) (x1 : Int32) (x2 : Int32) (H : Heap) (locs : List Loc) (ls : Array Slot), f_X9_firstIn_2 w L n x1 x2 u = some v → z_W D A b g u H → va_S A s.heap H locs → lv_has ls 3 [(0, .ref (b + w)), (1, .int x1), (2, .int x2)] → W p l e { frames := 0, cells := 0, slots := 0, locals := 0 } s m args below meth c H locs 0 0 (z_End D A b g below args s (some (.int v)) u) (F0 m 2 ls []) := by
  have hx := C0.1
  have hb := C0.2.1
  intro n
  induction n with
  | zero => intro x1 x2 H locs ls h hW hS hl; cases h
  | succ n ih =>
    intro x1 x2 H locs ls h hW hS hl
    rw [f_X9_firstIn_2_s] at h
    refine lv_iload_n hx hb dX9_firstIn_2 rfl (lv_at hl 2 rfl) ?_
    refine lv_aload_n hx hb dX9_firstIn_3 rfl (lv_at hl 0 rfl) ?_
    refine z_geti C0 hW fl_X9_36 hw.1 rfl dX9_firstIn_4 ?_
    refine lv_icmp_ge (tgt := 28) hx hb dX9_firstIn_7 (by decide) (fun hc => ?_) (fun hc => ?_)
    · replace h := z_t h hc
      clear hc
      refine lv_iconst (v := (-1 : Int32)) hx hb dX9_firstIn_28 (by decide) ?_
      cases h
      exact z_iret C0 hr hlk hW hS dX9_firstIn_29
    · replace h := z_f h hc
      clear hc
      refine lv_aload_n hx hb dX9_firstIn_10 rfl (lv_at hl 0 rfl) ?_
      refine z_getr (o := w + 1) C0 hW fl_X9_9 hw.1 rfl (hw.2.1 0 (by decide)).1 dX9_firstIn_11 ?_
      refine lv_iload_n hx hb dX9_firstIn_14 rfl (lv_at hl 2 rfl) ?_
      replace h := z_if h
      obtain ⟨hin, h⟩ := h
      refine z_iald (n := 8) C0 hW (hw.2.1 0 (by decide)).2.1 (hw.2.1 0 (by decide)).2.2 hin rfl dX9_firstIn_15 ?_
      clear hin
      refine lv_topi (fun z1 e1 => ?_)
      replace h := z_ly h e1
      clear e1
      refine lv_iload_n hx hb dX9_firstIn_16 rfl (lv_at hl 1 rfl) ?_
      refine lv_icmp_ne (tgt := 22) hx hb dX9_firstIn_17 (by decide) (fun hc => ?_) (fun hc => ?_)
      · replace h := z_f h hc
        clear hc
        refine lv_iinc (v := x2 + (1 : Int32)) (lv' := [(2, .int (x2 + (1 : Int32))), (0, .ref (b + w)), (1, .int x1)]) hx hb dX9_firstIn_22 hl (k := 2) rfl rfl (by decide) rfl (fun ls hl => ?_)
        refine lv_goto (tgt := 2) hx hb dX9_firstIn_25 (by decide) ?_
        exact ih _ _ _ _ _ h hW hS (lv_sub hl [1, 2, 0] rfl)
      · replace h := z_t h hc
        clear hc
        refine lv_iload_n hx hb dX9_firstIn_20 rfl (lv_at hl 2 rfl) ?_
        cases h
        exact z_iret C0 hr hlk hW hS dX9_firstIn_21
theorem f_X9_firstIn_e (w : Nat) (L : Nat → Nat) (a1 : Int32) (u : zU) : f_X9_firstIn w L a1 u = f_X9_firstIn_2 w L 5000 a1 (0 : Int32) u := rfl
set_option maxRecDepth 100000 in
set_option maxHeartbeats 4000000 in
theorem c_X9_firstIn (l : Launch) (D : zD) (A : Nat → Prop) (b : Nat) (g : zG) (w : Nat) (L : Nat → Nat) (hw : zWh g w L) (a1 : Int32) (u : zU) {v : Int32} (h : f_X9_firstIn w L a1 u = some v) : z_M l D A b g yX9_firstIn cX9_firstIn 3 (some .int) 0 0 [.ref (b + w), .int a1] u (some (.int v)) u := by
  refine z_enter (by decide) (Nat.le_of_ble_eq_true rfl) ?_
  intro p e s m below meth c ls C0 hr hml hlk hW hS hl
  have hl : lv_has ls 3 [(0, .ref (b + w)), (1, .int a1)] := hl
  have hx := C0.1
  have hb := C0.2.1
  rw [f_X9_firstIn_e] at h
  refine lv_iconst (v := (0 : Int32)) hx hb dX9_firstIn_0 (by decide) ?_
  refine lv_istore_n (lv' := [(2, .int (0 : Int32)), (0, .ref (b + w)), (1, .int a1)]) hx hb dX9_firstIn_1 rfl hl (by decide) rfl (fun ls hl => ?_)
  exact l_X9_firstIn_2 C0 hr hml hlk hw 5000 _ _ _ _ _ h hW hS (lv_sub hl [1, 2, 0] rfl)
def f_X9_isOpen (w : Nat) (L : Nat → Nat) (a1 : Int32) (u : zU) : Option (Bool) :=
  if z_in (a1 &&& (7 : Int32)) 8 = true then (z_let (u (w + 6) (a1 &&& (7 : Int32)).toNatClampNeg) (fun z1 => if z1 ≤ 0 then (some false) else ((f_X9_ridersIn w L a1 u).bind (fun r2 => z_let (f_J6_bitCount_0f7a4 r2 u) (fun r3 => if (2 : Int32) ≤ r3 then (some false) else (some true)))))) else none
theorem f_X9_isOpen_e (w : Nat) (L : Nat → Nat) (a1 : Int32) (u : zU) : f_X9_isOpen w L a1 u = if z_in (a1 &&& (7 : Int32)) 8 = true then (z_let (u (w + 6) (a1 &&& (7 : Int32)).toNatClampNeg) (fun z1 => if z1 ≤ 0 then (some false) else ((f_X9_ridersIn w L a1 u).bind (fun r2 => z_let (f_J6_bitCount_0f7a4 r2 u) (fun r3 => if (2 : Int32) ≤ r3 then (some false) else (some true)))))) else none := rfl
set_option maxRecDepth 100000 in
set_option maxHeartbeats 4000000 in
theorem c_X9_isOpen (l : Launch) (D : zD) (A : Nat → Prop) (b : Nat) (g : zG) (w : Nat) (L : Nat → Nat) (hw : zWh g w L) (a1 : Int32) (u : zU) {v : Bool} (h : f_X9_isOpen w L a1 u = some v) : z_M l D A b g yX9_isOpen cX9_isOpen 2 (some .boolean) 1 23 [.ref (b + w), .int a1] u (some (.int (bI v))) u := by
  refine z_enter (by decide) (Nat.le_of_ble_eq_true rfl) ?_
  intro p e s m below meth c ls C0 hr hml hlk hW hS hl
  have hl : lv_has ls 2 [(0, .ref (b + w)), (1, .int a1)] := hl
  have hx := C0.1
  have hb := C0.2.1
  rw [f_X9_isOpen_e] at h
  refine lv_aload_n hx hb dX9_isOpen_0 rfl (lv_at hl 0 rfl) ?_
  refine z_getr (o := w + 6) C0 hW fl_X9_27 hw.1 rfl (hw.2.1 5 (by decide)).1 dX9_isOpen_1 ?_
  refine lv_iload_n hx hb dX9_isOpen_4 rfl (lv_at hl 1 rfl) ?_
  refine lv_bipush (v := (7 : Int32)) hx hb dX9_isOpen_5 (by decide) ?_
  refine lv_iand hx hb dX9_isOpen_7 ?_
  replace h := z_if h
  obtain ⟨hin, h⟩ := h
  refine z_iald (n := 8) C0 hW (hw.2.1 5 (by decide)).2.1 (hw.2.1 5 (by decide)).2.2 hin rfl dX9_isOpen_8 ?_
  clear hin
  refine lv_topi (fun z1 e1 => ?_)
  replace h := z_ly h e1
  clear e1
  refine lv_if_le (tgt := 28) hx hb dX9_isOpen_9 (by decide) (fun hc => ?_) (fun hc => ?_)
  · replace h := z_t h hc
    clear hc
    refine lv_iconst (v := (0 : Int32)) hx hb dX9_isOpen_28 (by decide) ?_
    cases h
    exact z_zret (x := false) C0 hr hlk hW hS dX9_isOpen_29
  · replace h := z_f h hc
    clear hc
    refine lv_aload_n hx hb dX9_isOpen_12 rfl (lv_at hl 0 rfl) ?_
    refine lv_iload_n hx hb dX9_isOpen_13 rfl (lv_at hl 1 rfl) ?_
    replace h := z_bd h
    obtain ⟨r2, hq, h⟩ := h
    refine z_cvi (As := [.int a1]) C0 hml hl.1 hW hS (c_X9_ridersIn l D A b g w L hw a1 u hq) mv_X9_92 hw.1 ⟨Nat.le_of_ble_eq_true rfl, Nat.le_of_ble_eq_true rfl⟩ rfl rfl (Nat.le_of_ble_eq_true rfl) dX9_isOpen_14 (fun H locs hW hS => ?_)
    clear hq
    obtain ⟨r3, hq⟩ : ∃ y, f_J6_bitCount_0f7a4 r2 u = y := ⟨_, rfl⟩
    replace h := z_lz h hq
    refine z_csi (As := [.int r2]) C0 hml hl.1 hW hS (c_J6_bitCount_0f7a4 l D A b g r2 u hq) ms_X9_95 ⟨Nat.le_of_ble_eq_true rfl, Nat.le_of_ble_eq_true rfl⟩ rfl rfl (Nat.le_of_ble_eq_true rfl) dX9_isOpen_17 (fun H locs hW hS => ?_)
    clear hq
    refine lv_iconst (v := (2 : Int32)) hx hb dX9_isOpen_20 (by decide) ?_
    refine lv_icmp_ge (tgt := 28) hx hb dX9_isOpen_21 (by decide) (fun hc => ?_) (fun hc => ?_)
    · replace h := z_t h hc
      clear hc
      refine lv_iconst (v := (0 : Int32)) hx hb dX9_isOpen_28 (by decide) ?_
      cases h
      exact z_zret (x := false) C0 hr hlk hW hS dX9_isOpen_29
    · replace h := z_f h hc
      clear hc
      refine lv_iconst (v := (1 : Int32)) hx hb dX9_isOpen_24 (by decide) ?_
      refine lv_goto (tgt := 29) hx hb dX9_isOpen_25 (by decide) ?_
      cases h
      exact z_zret (x := true) C0 hr hlk hW hS dX9_isOpen_29
def f_X9_sitsLike_19 (w : Nat) (L : Nat → Nat) (w2 : Nat) (L2 : Nat → Nat) : Nat → Int32 → Int32 → zU → Option (Bool)
  | 0, _, _, _ => none
  | n + 1, x2, x3, u =>
    if (u w 8) ≤ x3 then ((z_b01 x2).bind (fun t1 => some t1)) else (if x2 = 0 then (f_X9_sitsLike_19 w L w2 L2 n (0 : Int32) (x3 + (1 : Int32)) u) else (if z_in x3 8 = true then (z_let (u (w + 1) (x3).toNatClampNeg) (fun z2 => if z_in x3 8 = true then (z_let (u (w2 + 1) (x3).toNatClampNeg) (fun z3 => if z2 = z3 then (f_X9_sitsLike_19 w L w2 L2 n (1 : Int32) (x3 + (1 : Int32)) u) else (f_X9_sitsLike_19 w L w2 L2 n (0 : Int32) (x3 + (1 : Int32)) u))) else none)) else none))
theorem f_X9_sitsLike_19_s (w : Nat) (L : Nat → Nat) (w2 : Nat) (L2 : Nat → Nat) (n : Nat) (x2 : Int32) (x3 : Int32) (u : zU) : f_X9_sitsLike_19 w L w2 L2 (n + 1) x2 x3 u = if (u w 8) ≤ x3 then ((z_b01 x2).bind (fun t1 => some t1)) else (if x2 = 0 then (f_X9_sitsLike_19 w L w2 L2 n (0 : Int32) (x3 + (1 : Int32)) u) else (if z_in x3 8 = true then (z_let (u (w + 1) (x3).toNatClampNeg) (fun z2 => if z_in x3 8 = true then (z_let (u (w2 + 1) (x3).toNatClampNeg) (fun z3 => if z2 = z3 then (f_X9_sitsLike_19 w L w2 L2 n (1 : Int32) (x3 + (1 : Int32)) u) else (f_X9_sitsLike_19 w L w2 L2 n (0 : Int32) (x3 + (1 : Int32)) u))) else none)) else none)) := rfl
def f_X9_sitsLike (w : Nat) (L : Nat → Nat) (w2 : Nat) (L2 : Nat → Nat)  (u : zU) : Option (Bool) :=
  if (u w 14) = (u w2 14) then (f_X9_sitsLike_19 w L w2 L2 5000 (1 : Int32) (0 : Int32) u) else (f_X9_sitsLike_19 w L w2 L2 5000 (0 : Int32) (0 : Int32) u)
set_option maxRecDepth 100000 in
set_option maxHeartbeats 4000000 in
theorem l_X9_sitsLike_19 {l : Launch} {D : zD} {A : Nat → Prop} {b : Nat} {p : Program} {e : Env} {s : State} {m : MethodId} {args : Array Value} {below : List Frame} {meth : Method} {c : Code} {g : zG} {w : Nat} {L : Nat → Nat} {w2 : Nat} {L2 : Nat → Nat} {v : Bool} {u : zU} (C0 : z_C p c cX9_sitsLike s m args yX9_sitsLike.cls D A) (hr : meth.sig.returnType = (some .boolean)) (hml : c.maxLocals = 4) (hlk : meth.locks = false) (hw : zWh g w L) (hw2 : zWh g w2 L2) : ∀ (n : Nat) (x2 : Int32) (x3 : Int32) (H : Heap) (locs : List Loc) (ls : Array Slot), f_X9_sitsLike_19 w L w2 L2 n x2 x3 u = some v → z_W D A b g u H → va_S A s.heap H locs → lv_has ls 4 [(0, .ref (b + w)), (1, .ref (b + w2)), (2, .int x2), (3, .int x3)] → W p l e { frames := 0, cells := 0, slots := 0, locals := 0 } s m args below meth c H locs 0 0 (z_End D A b g below args s (some (.int (bI v))) u) (F0 m 19 ls []) := by
  have hx := C0.1
  have hb := C0.2.1
  intro n
  induction n with
  | zero => intro x2 x3 H locs ls h hW hS hl; cases h
  | succ n ih =>
    intro x2 x3 H locs ls h hW hS hl
    rw [f_X9_sitsLike_19_s] at h
    refine lv_iload_n hx hb dX9_sitsLike_19 rfl (lv_at hl 3 rfl) ?_
    refine lv_aload_n hx hb dX9_sitsLike_20 rfl (lv_at hl 0 rfl) ?_
    refine z_geti C0 hW fl_X9_36 hw.1 rfl dX9_sitsLike_21 ?_
    refine lv_icmp_ge (tgt := 58) hx hb dX9_sitsLike_24 (by decide) (fun hc => ?_) (fun hc => ?_)
    · replace h := z_t h hc
      clear hc
      refine lv_iload_n hx hb dX9_sitsLike_58 rfl (lv_at hl 2 rfl) ?_
      replace h := z_bd h
      obtain ⟨t1, hq, h⟩ := h
      refine z_as (z_b01_eq hq) ?_
      cases h
      exact z_zret C0 hr hlk hW hS dX9_sitsLike_59
    · replace h := z_f h hc
      clear hc
      refine lv_iload_n hx hb dX9_sitsLike_27 rfl (lv_at hl 2 rfl) ?_
      refine lv_if_eq (tgt := 50) hx hb dX9_sitsLike_28 (by decide) (fun hc => ?_) (fun hc => ?_)
      · replace h := z_t h hc
        clear hc
        refine lv_iconst (v := (0 : Int32)) hx hb dX9_sitsLike_50 (by decide) ?_
        refine lv_istore_n (lv' := [(2, .int (0 : Int32)), (0, .ref (b + w)), (1, .ref (b + w2)), (3, .int x3)]) hx hb dX9_sitsLike_51 rfl hl (by decide) rfl (fun ls hl => ?_)
        refine lv_iinc (v := x3 + (1 : Int32)) (lv' := [(3, .int (x3 + (1 : Int32))), (2, .int (0 : Int32)), (0, .ref (b + w)), (1, .ref (b + w2))]) hx hb dX9_sitsLike_52 hl (k := 3) rfl rfl (by decide) rfl (fun ls hl => ?_)
        refine lv_goto (tgt := 19) hx hb dX9_sitsLike_55 (by decide) ?_
        exact ih _ _ _ _ _ h hW hS (lv_sub hl [2, 3, 1, 0] rfl)
      · replace h := z_f h hc
        clear hc
        refine lv_aload_n hx hb dX9_sitsLike_31 rfl (lv_at hl 0 rfl) ?_
        refine z_getr (o := w + 1) C0 hW fl_X9_9 hw.1 rfl (hw.2.1 0 (by decide)).1 dX9_sitsLike_32 ?_
        refine lv_iload_n hx hb dX9_sitsLike_35 rfl (lv_at hl 3 rfl) ?_
        replace h := z_if h
        obtain ⟨hin, h⟩ := h
        refine z_iald (n := 8) C0 hW (hw.2.1 0 (by decide)).2.1 (hw.2.1 0 (by decide)).2.2 hin rfl dX9_sitsLike_36 ?_
        clear hin
        refine lv_topi (fun z2 e1 => ?_)
        replace h := z_ly h e1
        clear e1
        refine lv_aload_n hx hb dX9_sitsLike_37 rfl (lv_at hl 1 rfl) ?_
        refine z_getr (o := w2 + 1) C0 hW fl_X9_9 hw2.1 rfl (hw2.2.1 0 (by decide)).1 dX9_sitsLike_38 ?_
        refine lv_iload_n hx hb dX9_sitsLike_41 rfl (lv_at hl 3 rfl) ?_
        replace h := z_if h
        obtain ⟨hin, h⟩ := h
        refine z_iald (n := 8) C0 hW (hw2.2.1 0 (by decide)).2.1 (hw2.2.1 0 (by decide)).2.2 hin rfl dX9_sitsLike_42 ?_
        clear hin
        refine lv_topi (fun z3 e1 => ?_)
        replace h := z_ly h e1
        clear e1
        refine lv_icmp_ne (tgt := 50) hx hb dX9_sitsLike_43 (by decide) (fun hc => ?_) (fun hc => ?_)
        · replace h := z_f h hc
          clear hc
          refine lv_iconst (v := (0 : Int32)) hx hb dX9_sitsLike_50 (by decide) ?_
          refine lv_istore_n (lv' := [(2, .int (0 : Int32)), (0, .ref (b + w)), (1, .ref (b + w2)), (3, .int x3)]) hx hb dX9_sitsLike_51 rfl hl (by decide) rfl (fun ls hl => ?_)
          refine lv_iinc (v := x3 + (1 : Int32)) (lv' := [(3, .int (x3 + (1 : Int32))), (2, .int (0 : Int32)), (0, .ref (b + w)), (1, .ref (b + w2))]) hx hb dX9_sitsLike_52 hl (k := 3) rfl rfl (by decide) rfl (fun ls hl => ?_)
          refine lv_goto (tgt := 19) hx hb dX9_sitsLike_55 (by decide) ?_
          exact ih _ _ _ _ _ h hW hS (lv_sub hl [2, 3, 1, 0] rfl)
        · replace h := z_t h hc
          clear hc
          refine lv_iconst (v := (1 : Int32)) hx hb dX9_sitsLike_46 (by decide) ?_
          refine lv_goto (tgt := 51) hx hb dX9_sitsLike_47 (by decide) ?_
          refine lv_istore_n (lv' := [(2, .int (1 : Int32)), (0, .ref (b + w)), (1, .ref (b + w2)), (3, .int x3)]) hx hb dX9_sitsLike_51 rfl hl (by decide) rfl (fun ls hl => ?_)
          refine lv_iinc (v := x3 + (1 : Int32)) (lv' := [(3, .int (x3 + (1 : Int32))), (2, .int (1 : Int32)), (0, .ref (b + w)), (1, .ref (b + w2))]) hx hb dX9_sitsLike_52 hl (k := 3) rfl rfl (by decide) rfl (fun ls hl => ?_)
          refine lv_goto (tgt := 19) hx hb dX9_sitsLike_55 (by decide) ?_
          exact ih _ _ _ _ _ h hW hS (lv_sub hl [2, 3, 1, 0] rfl)
theorem f_X9_sitsLike_e (w : Nat) (L : Nat → Nat) (w2 : Nat) (L2 : Nat → Nat)  (u : zU) : f_X9_sitsLike w L w2 L2 u = if (u w 14) = (u w2 14) then (f_X9_sitsLike_19 w L w2 L2 5000 (1 : Int32) (0 : Int32) u) else (f_X9_sitsLike_19 w L w2 L2 5000 (0 : Int32) (0 : Int32) u) := rfl
set_option maxRecDepth 100000 in
set_option maxHeartbeats 4000000 in
theorem c_X9_sitsLike (l : Launch) (D : zD) (A : Nat → Prop) (b : Nat) (g : zG) (w : Nat) (L : Nat → Nat) (w2 : Nat) (L2 : Nat → Nat) (hw : zWh g w L) (hw2 : zWh g w2 L2)  (u : zU) {v : Bool} (h : f_X9_sitsLike w L w2 L2 u = some v) : z_M l D A b g yX9_sitsLike cX9_sitsLike 4 (some .boolean) 0 0 [.ref (b + w), .ref (b + w2)] u (some (.int (bI v))) u := by
  refine z_enter (by decide) (Nat.le_of_ble_eq_true rfl) ?_
  intro p e s m below meth c ls C0 hr hml hlk hW hS hl
  have hl : lv_has ls 4 [(0, .ref (b + w)), (1, .ref (b + w2))] := hl
  have hx := C0.1
  have hb := C0.2.1
  rw [f_X9_sitsLike_e] at h
  refine lv_aload_n hx hb dX9_sitsLike_0 rfl (lv_at hl 0 rfl) ?_
  refine z_geti C0 hW fl_X9_55 hw.1 rfl dX9_sitsLike_1 ?_
  refine lv_aload_n hx hb dX9_sitsLike_4 rfl (lv_at hl 1 rfl) ?_
  refine z_geti C0 hW fl_X9_55 hw2.1 rfl dX9_sitsLike_5 ?_
  refine lv_icmp_ne (tgt := 15) hx hb dX9_sitsLike_8 (by decide) (fun hc => ?_) (fun hc => ?_)
  · replace h := z_f h hc
    clear hc
    refine lv_iconst (v := (0 : Int32)) hx hb dX9_sitsLike_15 (by decide) ?_
    refine lv_istore_n (lv' := [(2, .int (0 : Int32)), (0, .ref (b + w)), (1, .ref (b + w2))]) hx hb dX9_sitsLike_16 rfl hl (by decide) rfl (fun ls hl => ?_)
    refine lv_iconst (v := (0 : Int32)) hx hb dX9_sitsLike_17 (by decide) ?_
    refine lv_istore_n (lv' := [(3, .int (0 : Int32)), (2, .int (0 : Int32)), (0, .ref (b + w)), (1, .ref (b + w2))]) hx hb dX9_sitsLike_18 rfl hl (by decide) rfl (fun ls hl => ?_)
    exact l_X9_sitsLike_19 C0 hr hml hlk hw hw2 5000 _ _ _ _ _ h hW hS (lv_sub hl [2, 3, 1, 0] rfl)
  · replace h := z_t h hc
    clear hc
    refine lv_iconst (v := (1 : Int32)) hx hb dX9_sitsLike_11 (by decide) ?_
    refine lv_goto (tgt := 16) hx hb dX9_sitsLike_12 (by decide) ?_
    refine lv_istore_n (lv' := [(2, .int (1 : Int32)), (0, .ref (b + w)), (1, .ref (b + w2))]) hx hb dX9_sitsLike_16 rfl hl (by decide) rfl (fun ls hl => ?_)
    refine lv_iconst (v := (0 : Int32)) hx hb dX9_sitsLike_17 (by decide) ?_
    refine lv_istore_n (lv' := [(3, .int (0 : Int32)), (2, .int (1 : Int32)), (0, .ref (b + w)), (1, .ref (b + w2))]) hx hb dX9_sitsLike_18 rfl hl (by decide) rfl (fun ls hl => ?_)
    exact l_X9_sitsLike_19 C0 hr hml hlk hw hw2 5000 _ _ _ _ _ h hW hS (lv_sub hl [2, 3, 1, 0] rfl)
def f_X9_queuedAt_2 (w : Nat) (L : Nat → Nat) : Nat → Int32 → Int32 → zU → Option (Int32)
  | 0, _, _, _ => none
  | n + 1, x1, x2, u =>
    if (u w 9) ≤ x2 then (some (-1 : Int32)) else (if z_in x2 8 = true then (z_let (u (w + 5) (x2).toNatClampNeg) (fun z1 => if z1 = x1 then (some x2) else (f_X9_queuedAt_2 w L n x1 (x2 + (1 : Int32)) u))) else none)
theorem f_X9_queuedAt_2_s (w : Nat) (L : Nat → Nat) (n : Nat) (x1 : Int32) (x2 : Int32) (u : zU) : f_X9_queuedAt_2 w L (n + 1) x1 x2 u = if (u w 9) ≤ x2 then (some (-1 : Int32)) else (if z_in x2 8 = true then (z_let (u (w + 5) (x2).toNatClampNeg) (fun z1 => if z1 = x1 then (some x2) else (f_X9_queuedAt_2 w L n x1 (x2 + (1 : Int32)) u))) else none) := rfl
def f_X9_queuedAt (w : Nat) (L : Nat → Nat) (a1 : Int32) (u : zU) : Option (Int32) :=
  f_X9_queuedAt_2 w L 5000 a1 (0 : Int32) u
set_option maxRecDepth 100000 in
set_option maxHeartbeats 4000000 in
theorem l_X9_queuedAt_2 {l : Launch} {D : zD} {A : Nat → Prop} {b : Nat} {p : Program} {e : Env} {s : State} {m : MethodId} {args : Array Value} {below : List Frame} {meth : Method} {c : Code} {g : zG} {w : Nat} {L : Nat → Nat} {v : Int32} {u : zU} (C0 : z_C p c cX9_queuedAt s m args yX9_queuedAt.cls D A) (hr : meth.sig.returnType = (some .int)) (hml : c.maxLocals = 3) (hlk : meth.locks = false) (hw : zWh g w L) : ∀ (n : Nat) (x1 : Int32) (x2 : Int32) (H : Heap) (locs : List Loc) (ls : Array Slot), f_X9_queuedAt_2 w L n x1 x2 u = some v → z_W D A b g u H → va_S A s.heap H locs → lv_has ls 3 [(0, .ref (b + w)), (1, .int x1), (2, .int x2)] → W p l e { frames := 0, cells := 0, slots := 0, locals := 0 } s m args below meth c H locs 0 0 (z_End D A b g below args s (some (.int v)) u) (F0 m 2 ls []) := by
  have hx := C0.1
  have hb := C0.2.1
  intro n
  induction n with
  | zero => intro x1 x2 H locs ls h hW hS hl; cases h
  | succ n ih =>
    intro x1 x2 H locs ls h hW hS hl
    rw [f_X9_queuedAt_2_s] at h
    refine lv_iload_n hx hb dX9_queuedAt_2 rfl (lv_at hl 2 rfl) ?_
    refine lv_aload_n hx hb dX9_queuedAt_3 rfl (lv_at hl 0 rfl) ?_
    refine z_geti C0 hW fl_X9_40 hw.1 rfl dX9_queuedAt_4 ?_
    refine lv_icmp_ge (tgt := 28) hx hb dX9_queuedAt_7 (by decide) (fun hc => ?_) (fun hc => ?_)
    · replace h := z_t h hc
      clear hc
      refine lv_iconst (v := (-1 : Int32)) hx hb dX9_queuedAt_28 (by decide) ?_
      cases h
      exact z_iret C0 hr hlk hW hS dX9_queuedAt_29
    · replace h := z_f h hc
      clear hc
      refine lv_aload_n hx hb dX9_queuedAt_10 rfl (lv_at hl 0 rfl) ?_
      refine z_getr (o := w + 5) C0 hW fl_X9_24 hw.1 rfl (hw.2.1 4 (by decide)).1 dX9_queuedAt_11 ?_
      refine lv_iload_n hx hb dX9_queuedAt_14 rfl (lv_at hl 2 rfl) ?_
      replace h := z_if h
      obtain ⟨hin, h⟩ := h
      refine z_iald (n := 8) C0 hW (hw.2.1 4 (by decide)).2.1 (hw.2.1 4 (by decide)).2.2 hin rfl dX9_queuedAt_15 ?_
      clear hin
      refine lv_topi (fun z1 e1 => ?_)
      replace h := z_ly h e1
      clear e1
      refine lv_iload_n hx hb dX9_queuedAt_16 rfl (lv_at hl 1 rfl) ?_
      refine lv_icmp_ne (tgt := 22) hx hb dX9_queuedAt_17 (by decide) (fun hc => ?_) (fun hc => ?_)
      · replace h := z_f h hc
        clear hc
        refine lv_iinc (v := x2 + (1 : Int32)) (lv' := [(2, .int (x2 + (1 : Int32))), (0, .ref (b + w)), (1, .int x1)]) hx hb dX9_queuedAt_22 hl (k := 2) rfl rfl (by decide) rfl (fun ls hl => ?_)
        refine lv_goto (tgt := 2) hx hb dX9_queuedAt_25 (by decide) ?_
        exact ih _ _ _ _ _ h hW hS (lv_sub hl [1, 2, 0] rfl)
      · replace h := z_t h hc
        clear hc
        refine lv_iload_n hx hb dX9_queuedAt_20 rfl (lv_at hl 2 rfl) ?_
        cases h
        exact z_iret C0 hr hlk hW hS dX9_queuedAt_21
theorem f_X9_queuedAt_e (w : Nat) (L : Nat → Nat) (a1 : Int32) (u : zU) : f_X9_queuedAt w L a1 u = f_X9_queuedAt_2 w L 5000 a1 (0 : Int32) u := rfl
set_option maxRecDepth 100000 in
set_option maxHeartbeats 4000000 in
theorem c_X9_queuedAt (l : Launch) (D : zD) (A : Nat → Prop) (b : Nat) (g : zG) (w : Nat) (L : Nat → Nat) (hw : zWh g w L) (a1 : Int32) (u : zU) {v : Int32} (h : f_X9_queuedAt w L a1 u = some v) : z_M l D A b g yX9_queuedAt cX9_queuedAt 3 (some .int) 0 0 [.ref (b + w), .int a1] u (some (.int v)) u := by
  refine z_enter (by decide) (Nat.le_of_ble_eq_true rfl) ?_
  intro p e s m below meth c ls C0 hr hml hlk hW hS hl
  have hl : lv_has ls 3 [(0, .ref (b + w)), (1, .int a1)] := hl
  have hx := C0.1
  have hb := C0.2.1
  rw [f_X9_queuedAt_e] at h
  refine lv_iconst (v := (0 : Int32)) hx hb dX9_queuedAt_0 (by decide) ?_
  refine lv_istore_n (lv' := [(2, .int (0 : Int32)), (0, .ref (b + w)), (1, .int a1)]) hx hb dX9_queuedAt_1 rfl hl (by decide) rfl (fun ls hl => ?_)
  exact l_X9_queuedAt_2 C0 hr hml hlk hw 5000 _ _ _ _ _ h hW hS (lv_sub hl [1, 2, 0] rfl)
def f_X9_getOff (w : Nat) (L : Nat → Nat) (a1 : Int32) (u : zU) : Option (zU) :=
  if z_in (a1 &&& (7 : Int32)) 8 = true then (z_let (z_up u (w + 1) (a1 &&& (7 : Int32)).toNatClampNeg (-1 : Int32)) (fun u1 => if (8 : Int32) ≤ (u1 w 9) then (some u1) else (if z_in (u1 w 9) 8 = true then (z_let (z_up u1 (w + 5) (u1 w 9).toNatClampNeg a1) (fun u2 => z_let (z_up u2 w 9 ((u2 w 9) + (1 : Int32))) (fun u3 => some u3))) else none))) else none
theorem f_X9_getOff_e (w : Nat) (L : Nat → Nat) (a1 : Int32) (u : zU) : f_X9_getOff w L a1 u = if z_in (a1 &&& (7 : Int32)) 8 = true then (z_let (z_up u (w + 1) (a1 &&& (7 : Int32)).toNatClampNeg (-1 : Int32)) (fun u1 => if (8 : Int32) ≤ (u1 w 9) then (some u1) else (if z_in (u1 w 9) 8 = true then (z_let (z_up u1 (w + 5) (u1 w 9).toNatClampNeg a1) (fun u2 => z_let (z_up u2 w 9 ((u2 w 9) + (1 : Int32))) (fun u3 => some u3))) else none))) else none := rfl
set_option maxRecDepth 100000 in
set_option maxHeartbeats 4000000 in
theorem c_X9_getOff (l : Launch) (D : zD) (A : Nat → Prop) (b : Nat) (g : zG) (w : Nat) (L : Nat → Nat) (hw : zWh g w L) (a1 : Int32) (u : zU) {u' : zU} (h : f_X9_getOff w L a1 u = some u') : z_M l D A b g yX9_getOff cX9_getOff 2 none 0 0 [.ref (b + w), .int a1] u none u' := by
  refine z_enter (by decide) (Nat.le_of_ble_eq_true rfl) ?_
  intro p e s m below meth c ls C0 hr hml hlk hW hS hl
  have hl : lv_has ls 2 [(0, .ref (b + w)), (1, .int a1)] := hl
  have hx := C0.1
  have hb := C0.2.1
  rw [f_X9_getOff_e] at h
  refine lv_aload_n hx hb dX9_getOff_0 rfl (lv_at hl 0 rfl) ?_
  refine z_getr (o := w + 1) C0 hW fl_X9_9 hw.1 rfl (hw.2.1 0 (by decide)).1 dX9_getOff_1 ?_
  refine lv_iload_n hx hb dX9_getOff_4 rfl (lv_at hl 1 rfl) ?_
  refine lv_bipush (v := (7 : Int32)) hx hb dX9_getOff_5 (by decide) ?_
  refine lv_iand hx hb dX9_getOff_7 ?_
  refine lv_iconst (v := (-1 : Int32)) hx hb dX9_getOff_8 (by decide) ?_
  replace h := z_if h
  obtain ⟨hin, h⟩ := h
  refine z_iast (n := 8) C0 hW hS (hw.2.1 0 (by decide)).2.1 (hw.2.1 0 (by decide)).2.2 hin rfl dX9_getOff_9 (fun H locs u1 e1 hW hS => ?_)
  replace h := z_ly h e1
  clear e1
  refine lv_aload_n hx hb dX9_getOff_10 rfl (lv_at hl 0 rfl) ?_
  refine z_geti C0 hW fl_X9_40 hw.1 rfl dX9_getOff_11 ?_
  refine lv_bipush (v := (8 : Int32)) hx hb dX9_getOff_14 (by decide) ?_
  refine lv_icmp_ge (tgt := 39) hx hb dX9_getOff_16 (by decide) (fun hc => ?_) (fun hc => ?_)
  · replace h := z_t h hc
    clear hc
    cases h
    exact z_vret C0 hr hlk hW hS dX9_getOff_39
  · replace h := z_f h hc
    clear hc
    refine lv_aload_n hx hb dX9_getOff_19 rfl (lv_at hl 0 rfl) ?_
    refine z_getr (o := w + 5) C0 hW fl_X9_24 hw.1 rfl (hw.2.1 4 (by decide)).1 dX9_getOff_20 ?_
    refine lv_aload_n hx hb dX9_getOff_23 rfl (lv_at hl 0 rfl) ?_
    refine z_geti C0 hW fl_X9_40 hw.1 rfl dX9_getOff_24 ?_
    refine lv_iload_n hx hb dX9_getOff_27 rfl (lv_at hl 1 rfl) ?_
    replace h := z_if h
    obtain ⟨hin, h⟩ := h
    refine z_iast (n := 8) C0 hW hS (hw.2.1 4 (by decide)).2.1 (hw.2.1 4 (by decide)).2.2 hin rfl dX9_getOff_28 (fun H locs u2 e1 hW hS => ?_)
    replace h := z_ly h e1
    clear e1
    refine lv_aload_n hx hb dX9_getOff_29 rfl (lv_at hl 0 rfl) ?_
    refine lv_dup hx hb dX9_getOff_30 rfl ?_
    refine z_geti C0 hW fl_X9_40 hw.1 rfl dX9_getOff_31 ?_
    refine lv_iconst (v := (1 : Int32)) hx hb dX9_getOff_34 (by decide) ?_
    refine lv_iadd hx hb dX9_getOff_35 ?_
    refine z_puti C0 hW hS fl_X9_40 hw.1 rfl rfl rfl dX9_getOff_36 (fun H locs u3 e1 hW hS => ?_)
    replace h := z_ly h e1
    clear e1
    cases h
    exact z_vret C0 hr hlk hW hS dX9_getOff_39
def f_X9_getIn_15 (w : Nat) (L : Nat → Nat) : Nat → Int32 → Int32 → Int32 → zU → Option (zU)
  | 0, _, _, _, _ => none
  | n + 1, x1, x2, x4, u =>
    if (u w 9) ≤ (x4 + (1 : Int32)) then (z_let (z_up u w 9 ((u w 9) - (1 : Int32))) (fun u2 => if z_in (x1 &&& (7 : Int32)) 8 = true then (z_let (z_up u2 (w + 1) (x1 &&& (7 : Int32)).toNatClampNeg x2) (fun u3 => some u3)) else none)) else (if z_in (x4 + (1 : Int32)) 8 = true then (z_let (u (w + 5) (x4 + (1 : Int32)).toNatClampNeg) (fun z4 => if z_in x4 8 = true then (z_let (z_up u (w + 5) (x4).toNatClampNeg z4) (fun u5 => f_X9_getIn_15 w L n x1 x2 (x4 + (1 : Int32)) u5)) else none)) else none)
theorem f_X9_getIn_15_s (w : Nat) (L : Nat → Nat) (n : Nat) (x1 : Int32) (x2 : Int32) (x4 : Int32) (u : zU) : f_X9_getIn_15 w L (n + 1) x1 x2 x4 u = if (u w 9) ≤ (x4 + (1 : Int32)) then (z_let (z_up u w 9 ((u w 9) - (1 : Int32))) (fun u2 => if z_in (x1 &&& (7 : Int32)) 8 = true then (z_let (z_up u2 (w + 1) (x1 &&& (7 : Int32)).toNatClampNeg x2) (fun u3 => some u3)) else none)) else (if z_in (x4 + (1 : Int32)) 8 = true then (z_let (u (w + 5) (x4 + (1 : Int32)).toNatClampNeg) (fun z4 => if z_in x4 8 = true then (z_let (z_up u (w + 5) (x4).toNatClampNeg z4) (fun u5 => f_X9_getIn_15 w L n x1 x2 (x4 + (1 : Int32)) u5)) else none)) else none) := rfl
def f_X9_getIn (w : Nat) (L : Nat → Nat) (a1 : Int32) (a2 : Int32) (u : zU) : Option (zU) :=
  (f_X9_queuedAt w L a1 u).bind (fun r1 => if r1 = (-1 : Int32) then (some u) else (f_X9_getIn_15 w L 5000 a1 a2 r1 u))
set_option maxRecDepth 100000 in
set_option maxHeartbeats 4000000 in
theorem l_X9_getIn_15 {l : Launch} {D : zD} {A : Nat → Prop} {b : Nat} {p : Program} {e : Env} {s : State} {m : MethodId} {args : Array Value} {below : List Frame} {meth : Method} {c : Code} {g : zG} {w : Nat} {L : Nat → Nat} {u' : zU} (C0 : z_C p c cX9_getIn s m args yX9_getIn.cls D A) (hr : meth.sig.returnType = none) (hml : c.maxLocals = 5) (hlk : meth.locks = false) (hw : zWh g w L) : ∀ (n : Nat) (x1 : Int32) (x2 : Int32) (x4 : Int32) (u : zU) (H : Heap) (locs : List Loc) (ls : Array Slot), f_X9_getIn_15 w L n x1 x2 x4 u = some u' → z_W D A b g u H → va_S A s.heap H locs → lv_has ls 5 [(0, .ref (b + w)), (1, .int x1), (2, .int x2), (4, .int x4)] → W p l e { frames := 1, cells := 0, slots := 0, locals := 22 } s m args below meth c H locs 0 0 (z_End D A b g below args s none u') (F0 m 15 ls []) := by
  have hx := C0.1
  have hb := C0.2.1
  intro n
  induction n with
  | zero => intro x1 x2 x4 u H locs ls h hW hS hl; cases h
  | succ n ih =>
    intro x1 x2 x4 u H locs ls h hW hS hl
    rw [f_X9_getIn_15_s] at h
    refine lv_iload hx hb dX9_getIn_15 (lv_at hl 3 rfl) ?_
    refine lv_iconst (v := (1 : Int32)) hx hb dX9_getIn_17 (by decide) ?_
    refine lv_iadd hx hb dX9_getIn_18 ?_
    refine lv_aload_n hx hb dX9_getIn_19 rfl (lv_at hl 0 rfl) ?_
    refine z_geti C0 hW fl_X9_40 hw.1 rfl dX9_getIn_20 ?_
    refine lv_icmp_ge (tgt := 48) hx hb dX9_getIn_23 (by decide) (fun hc => ?_) (fun hc => ?_)
    · replace h := z_t h hc
      clear hc
      refine lv_aload_n hx hb dX9_getIn_48 rfl (lv_at hl 0 rfl) ?_
      refine lv_dup hx hb dX9_getIn_49 rfl ?_
      refine z_geti C0 hW fl_X9_40 hw.1 rfl dX9_getIn_50 ?_
      refine lv_iconst (v := (1 : Int32)) hx hb dX9_getIn_53 (by decide) ?_
      refine lv_isub hx hb dX9_getIn_54 ?_
      refine z_puti C0 hW hS fl_X9_40 hw.1 rfl rfl rfl dX9_getIn_55 (fun H locs u2 e1 hW hS => ?_)
      replace h := z_ly h e1
      clear e1
      refine lv_aload_n hx hb dX9_getIn_58 rfl (lv_at hl 0 rfl) ?_
      refine z_getr (o := w + 1) C0 hW fl_X9_9 hw.1 rfl (hw.2.1 0 (by decide)).1 dX9_getIn_59 ?_
      refine lv_iload_n hx hb dX9_getIn_62 rfl (lv_at hl 1 rfl) ?_
      refine lv_bipush (v := (7 : Int32)) hx hb dX9_getIn_63 (by decide) ?_
      refine lv_iand hx hb dX9_getIn_65 ?_
      refine lv_iload_n hx hb dX9_getIn_66 rfl (lv_at hl 2 rfl) ?_
      replace h := z_if h
      obtain ⟨hin, h⟩ := h
      refine z_iast (n := 8) C0 hW hS (hw.2.1 0 (by decide)).2.1 (hw.2.1 0 (by decide)).2.2 hin rfl dX9_getIn_67 (fun H locs u3 e1 hW hS => ?_)
      replace h := z_ly h e1
      clear e1
      cases h
      exact z_vret C0 hr hlk hW hS dX9_getIn_68
    · replace h := z_f h hc
      clear hc
      refine lv_aload_n hx hb dX9_getIn_26 rfl (lv_at hl 0 rfl) ?_
      refine z_getr (o := w + 5) C0 hW fl_X9_24 hw.1 rfl (hw.2.1 4 (by decide)).1 dX9_getIn_27 ?_
      refine lv_iload hx hb dX9_getIn_30 (lv_at hl 3 rfl) ?_
      refine lv_aload_n hx hb dX9_getIn_32 rfl (lv_at hl 0 rfl) ?_
      refine z_getr (o := w + 5) C0 hW fl_X9_24 hw.1 rfl (hw.2.1 4 (by decide)).1 dX9_getIn_33 ?_
      refine lv_iload hx hb dX9_getIn_36 (lv_at hl 3 rfl) ?_
      refine lv_iconst (v := (1 : Int32)) hx hb dX9_getIn_38 (by decide) ?_
      refine lv_iadd hx hb dX9_getIn_39 ?_
      replace h := z_if h
      obtain ⟨hin, h⟩ := h
      refine z_iald (n := 8) C0 hW (hw.2.1 4 (by decide)).2.1 (hw.2.1 4 (by decide)).2.2 hin rfl dX9_getIn_40 ?_
      clear hin
      refine lv_topi (fun z4 e1 => ?_)
      replace h := z_ly h e1
      clear e1
      replace h := z_if h
      obtain ⟨hin, h⟩ := h
      refine z_iast (n := 8) C0 hW hS (hw.2.1 4 (by decide)).2.1 (hw.2.1 4 (by decide)).2.2 hin rfl dX9_getIn_41 (fun H locs u5 e1 hW hS => ?_)
      replace h := z_ly h e1
      clear e1
      refine lv_iinc (v := x4 + (1 : Int32)) (lv' := [(4, .int (x4 + (1 : Int32))), (0, .ref (b + w)), (1, .int x1), (2, .int x2)]) hx hb dX9_getIn_42 hl (k := 3) rfl rfl (by decide) rfl (fun ls hl => ?_)
      refine lv_goto (tgt := 15) hx hb dX9_getIn_45 (by decide) ?_
      exact ih _ _ _ _ _ _ _ h hW hS (lv_sub hl [1, 2, 3, 0] rfl)
theorem f_X9_getIn_e (w : Nat) (L : Nat → Nat) (a1 : Int32) (a2 : Int32) (u : zU) : f_X9_getIn w L a1 a2 u = (f_X9_queuedAt w L a1 u).bind (fun r1 => if r1 = (-1 : Int32) then (some u) else (f_X9_getIn_15 w L 5000 a1 a2 r1 u)) := rfl
set_option maxRecDepth 100000 in
set_option maxHeartbeats 4000000 in
theorem c_X9_getIn (l : Launch) (D : zD) (A : Nat → Prop) (b : Nat) (g : zG) (w : Nat) (L : Nat → Nat) (hw : zWh g w L) (a1 : Int32) (a2 : Int32) (u : zU) {u' : zU} (h : f_X9_getIn w L a1 a2 u = some u') : z_M l D A b g yX9_getIn cX9_getIn 5 none 1 22 [.ref (b + w), .int a1, .int a2] u none u' := by
  refine z_enter (by decide) (Nat.le_of_ble_eq_true rfl) ?_
  intro p e s m below meth c ls C0 hr hml hlk hW hS hl
  have hl : lv_has ls 5 [(0, .ref (b + w)), (1, .int a1), (2, .int a2)] := hl
  have hx := C0.1
  have hb := C0.2.1
  rw [f_X9_getIn_e] at h
  refine lv_aload_n hx hb dX9_getIn_0 rfl (lv_at hl 0 rfl) ?_
  refine lv_iload_n hx hb dX9_getIn_1 rfl (lv_at hl 1 rfl) ?_
  replace h := z_bd h
  obtain ⟨r1, hq, h⟩ := h
  refine z_cvi (As := [.int a1]) C0 hml hl.1 hW hS (c_X9_queuedAt l D A b g w L hw a1 u hq) mv_X9_104 hw.1 ⟨Nat.le_of_ble_eq_true rfl, Nat.le_of_ble_eq_true rfl⟩ rfl rfl (Nat.le_of_ble_eq_true rfl) dX9_getIn_2 (fun H locs hW hS => ?_)
  clear hq
  refine lv_istore_n (lv' := [(3, .int r1), (0, .ref (b + w)), (1, .int a1), (2, .int a2)]) hx hb dX9_getIn_5 rfl hl (by decide) rfl (fun ls hl => ?_)
  refine lv_iload_n hx hb dX9_getIn_6 rfl (lv_at hl 0 rfl) ?_
  refine lv_iconst (v := (-1 : Int32)) hx hb dX9_getIn_7 (by decide) ?_
  refine lv_icmp_ne (tgt := 12) hx hb dX9_getIn_8 (by decide) (fun hc => ?_) (fun hc => ?_)
  · replace h := z_f h hc
    clear hc
    refine lv_iload_n hx hb dX9_getIn_12 rfl (lv_at hl 0 rfl) ?_
    refine lv_istore (lv' := [(4, .int r1), (3, .int r1), (0, .ref (b + w)), (1, .int a1), (2, .int a2)]) hx hb dX9_getIn_13 hl (by decide) rfl (fun ls hl => ?_)
    exact l_X9_getIn_15 C0 hr hml hlk hw 5000 _ _ _ _ _ _ _ h hW hS (lv_sub hl [2, 3, 4, 0] rfl)
  · replace h := z_t h hc
    clear hc
    cases h
    exact z_vret C0 hr hlk hW hS dX9_getIn_11
def f_X9_tellFacts (w : Nat) (L : Nat → Nat) (a1 : Int32) (u : zU) : Option (zU) :=
  z_let (a1 &&& (7 : Int32)) (fun z1 => if z_in z1 8 = true then (z_let (u (w + 1) (z1).toNatClampNeg) (fun z2 => z_let (z2 &&& (7 : Int32)) (fun z3 => z_let (z_up u (w + 8) 0 z3) (fun u4 => if z_in z1 8 = true then (z_let (u4 (w + 2) (z1).toNatClampNeg) (fun z5 => z_let (z_up u4 (w + 8) 1 z5) (fun u6 => if z_in z1 8 = true then (z_let (u6 (w + 4) (z1).toNatClampNeg) (fun z7 => z_let (z_up u6 (w + 8) 2 z7) (fun u8 => if z_in z3 8 = true then (z_let (u8 (w + 6) (z3).toNatClampNeg) (fun z9 => z_let (z_up u8 (w + 8) 3 z9) (fun u10 => z_let (z_up u10 (w + 8) 4 (u10 w 15)) (fun u11 => z_let (f_X9_height w L z3 u11) (fun r12 => z_let (z_up u11 (w + 8) 5 r12) (fun u13 => z_let (z_up u13 (w + 8) 6 ((u13 w 11) / (100 : Int32))) (fun u14 => if z_in z1 8 = true then (z_let (u14 (w + 3) (z1).toNatClampNeg) (fun z15 => if z15 < (50 : Int32) then (z_let (z_up u14 (w + 8) 7 (0 : Int32)) (fun u16 => (f_X9_ridersIn w L z3 u16).bind (fun r17 => if r17 = ((1 : Int32) <<< (z1 &&& 31)) then (z_let (z_up u16 (w + 8) 8 (1 : Int32)) (fun u19 => some u19)) else (z_let (z_up u16 (w + 8) 8 (0 : Int32)) (fun u18 => some u18))))) else (z_let (z_up u14 (w + 8) 7 (1 : Int32)) (fun u20 => (f_X9_ridersIn w L z3 u20).bind (fun r21 => if r21 = ((1 : Int32) <<< (z1 &&& 31)) then (z_let (z_up u20 (w + 8) 8 (1 : Int32)) (fun u23 => some u23)) else (z_let (z_up u20 (w + 8) 8 (0 : Int32)) (fun u22 => some u22))))))) else none))))))) else none))) else none))) else none)))) else none)
theorem f_X9_tellFacts_e (w : Nat) (L : Nat → Nat) (a1 : Int32) (u : zU) : f_X9_tellFacts w L a1 u = z_let (a1 &&& (7 : Int32)) (fun z1 => if z_in z1 8 = true then (z_let (u (w + 1) (z1).toNatClampNeg) (fun z2 => z_let (z2 &&& (7 : Int32)) (fun z3 => z_let (z_up u (w + 8) 0 z3) (fun u4 => if z_in z1 8 = true then (z_let (u4 (w + 2) (z1).toNatClampNeg) (fun z5 => z_let (z_up u4 (w + 8) 1 z5) (fun u6 => if z_in z1 8 = true then (z_let (u6 (w + 4) (z1).toNatClampNeg) (fun z7 => z_let (z_up u6 (w + 8) 2 z7) (fun u8 => if z_in z3 8 = true then (z_let (u8 (w + 6) (z3).toNatClampNeg) (fun z9 => z_let (z_up u8 (w + 8) 3 z9) (fun u10 => z_let (z_up u10 (w + 8) 4 (u10 w 15)) (fun u11 => z_let (f_X9_height w L z3 u11) (fun r12 => z_let (z_up u11 (w + 8) 5 r12) (fun u13 => z_let (z_up u13 (w + 8) 6 ((u13 w 11) / (100 : Int32))) (fun u14 => if z_in z1 8 = true then (z_let (u14 (w + 3) (z1).toNatClampNeg) (fun z15 => if z15 < (50 : Int32) then (z_let (z_up u14 (w + 8) 7 (0 : Int32)) (fun u16 => (f_X9_ridersIn w L z3 u16).bind (fun r17 => if r17 = ((1 : Int32) <<< (z1 &&& 31)) then (z_let (z_up u16 (w + 8) 8 (1 : Int32)) (fun u19 => some u19)) else (z_let (z_up u16 (w + 8) 8 (0 : Int32)) (fun u18 => some u18))))) else (z_let (z_up u14 (w + 8) 7 (1 : Int32)) (fun u20 => (f_X9_ridersIn w L z3 u20).bind (fun r21 => if r21 = ((1 : Int32) <<< (z1 &&& 31)) then (z_let (z_up u20 (w + 8) 8 (1 : Int32)) (fun u23 => some u23)) else (z_let (z_up u20 (w + 8) 8 (0 : Int32)) (fun u22 => some u22))))))) else none))))))) else none))) else none))) else none)))) else none) := rfl
set_option maxRecDepth 100000 in
set_option maxHeartbeats 4000000 in
theorem c_X9_tellFacts (l : Launch) (D : zD) (A : Nat → Prop) (b : Nat) (g : zG) (w : Nat) (L : Nat → Nat) (hw : zWh g w L) (a1 : Int32) (u : zU) {u' : zU} (h : f_X9_tellFacts w L a1 u = some u') : z_M l D A b g yX9_tellFacts cX9_tellFacts 4 none 2 42 [.ref (b + w), .int a1] u none u' := by
  refine z_enter (by decide) (Nat.le_of_ble_eq_true rfl) ?_
  intro p e s m below meth c ls C0 hr hml hlk hW hS hl
  have hl : lv_has ls 4 [(0, .ref (b + w)), (1, .int a1)] := hl
  have hx := C0.1
  have hb := C0.2.1
  rw [f_X9_tellFacts_e] at h
  refine lv_iload_n hx hb dX9_tellFacts_0 rfl (lv_at hl 1 rfl) ?_
  refine lv_bipush (v := (7 : Int32)) hx hb dX9_tellFacts_1 (by decide) ?_
  refine lv_iand hx hb dX9_tellFacts_3 ?_
  refine lv_topi (fun z1 e1 => ?_)
  replace h := z_ly h e1
  clear e1
  refine lv_istore_n (lv' := [(2, .int z1), (0, .ref (b + w)), (1, .int a1)]) hx hb dX9_tellFacts_4 rfl hl (by decide) rfl (fun ls hl => ?_)
  refine lv_aload_n hx hb dX9_tellFacts_5 rfl (lv_at hl 1 rfl) ?_
  refine z_getr (o := w + 1) C0 hW fl_X9_9 hw.1 rfl (hw.2.1 0 (by decide)).1 dX9_tellFacts_6 ?_
  refine lv_iload_n hx hb dX9_tellFacts_9 rfl (lv_at hl 0 rfl) ?_
  replace h := z_if h
  obtain ⟨hin, h⟩ := h
  refine z_iald (n := 8) C0 hW (hw.2.1 0 (by decide)).2.1 (hw.2.1 0 (by decide)).2.2 hin rfl dX9_tellFacts_10 ?_
  clear hin
  refine lv_topi (fun z2 e1 => ?_)
  replace h := z_ly h e1
  clear e1
  refine lv_bipush (v := (7 : Int32)) hx hb dX9_tellFacts_11 (by decide) ?_
  refine lv_iand hx hb dX9_tellFacts_13 ?_
  refine lv_topi (fun z3 e1 => ?_)
  replace h := z_ly h e1
  clear e1
  refine lv_istore_n (lv' := [(3, .int z3), (2, .int z1), (0, .ref (b + w)), (1, .int a1)]) hx hb dX9_tellFacts_14 rfl hl (by decide) rfl (fun ls hl => ?_)
  refine lv_aload_n hx hb dX9_tellFacts_15 rfl (lv_at hl 2 rfl) ?_
  refine z_getr (o := w + 8) C0 hW fl_X9_33 hw.1 rfl (hw.2.1 7 (by decide)).1 dX9_tellFacts_16 ?_
  refine lv_iconst (v := (0 : Int32)) hx hb dX9_tellFacts_19 (by decide) ?_
  refine lv_iload_n hx hb dX9_tellFacts_20 rfl (lv_at hl 0 rfl) ?_
  refine z_iast (k := 0) (n := 9) C0 hW hS (hw.2.1 7 (by decide)).2.1 (hw.2.1 7 (by decide)).2.2 (by decide) (by decide) dX9_tellFacts_21 (fun H locs u4 e1 hW hS => ?_)
  replace h := z_ly h e1
  clear e1
  refine lv_aload_n hx hb dX9_tellFacts_22 rfl (lv_at hl 2 rfl) ?_
  refine z_getr (o := w + 8) C0 hW fl_X9_33 hw.1 rfl (hw.2.1 7 (by decide)).1 dX9_tellFacts_23 ?_
  refine lv_iconst (v := (1 : Int32)) hx hb dX9_tellFacts_26 (by decide) ?_
  refine lv_aload_n hx hb dX9_tellFacts_27 rfl (lv_at hl 2 rfl) ?_
  refine z_getr (o := w + 2) C0 hW fl_X9_15 hw.1 rfl (hw.2.1 1 (by decide)).1 dX9_tellFacts_28 ?_
  refine lv_iload_n hx hb dX9_tellFacts_31 rfl (lv_at hl 1 rfl) ?_
  replace h := z_if h
  obtain ⟨hin, h⟩ := h
  refine z_iald (n := 8) C0 hW (hw.2.1 1 (by decide)).2.1 (hw.2.1 1 (by decide)).2.2 hin rfl dX9_tellFacts_32 ?_
  clear hin
  refine lv_topi (fun z5 e1 => ?_)
  replace h := z_ly h e1
  clear e1
  refine z_iast (k := 1) (n := 9) C0 hW hS (hw.2.1 7 (by decide)).2.1 (hw.2.1 7 (by decide)).2.2 (by decide) (by decide) dX9_tellFacts_33 (fun H locs u6 e1 hW hS => ?_)
  replace h := z_ly h e1
  clear e1
  refine lv_aload_n hx hb dX9_tellFacts_34 rfl (lv_at hl 2 rfl) ?_
  refine z_getr (o := w + 8) C0 hW fl_X9_33 hw.1 rfl (hw.2.1 7 (by decide)).1 dX9_tellFacts_35 ?_
  refine lv_iconst (v := (2 : Int32)) hx hb dX9_tellFacts_38 (by decide) ?_
  refine lv_aload_n hx hb dX9_tellFacts_39 rfl (lv_at hl 2 rfl) ?_
  refine z_getr (o := w + 4) C0 hW fl_X9_21 hw.1 rfl (hw.2.1 3 (by decide)).1 dX9_tellFacts_40 ?_
  refine lv_iload_n hx hb dX9_tellFacts_43 rfl (lv_at hl 1 rfl) ?_
  replace h := z_if h
  obtain ⟨hin, h⟩ := h
  refine z_iald (n := 8) C0 hW (hw.2.1 3 (by decide)).2.1 (hw.2.1 3 (by decide)).2.2 hin rfl dX9_tellFacts_44 ?_
  clear hin
  refine lv_topi (fun z7 e1 => ?_)
  replace h := z_ly h e1
  clear e1
  refine z_iast (k := 2) (n := 9) C0 hW hS (hw.2.1 7 (by decide)).2.1 (hw.2.1 7 (by decide)).2.2 (by decide) (by decide) dX9_tellFacts_45 (fun H locs u8 e1 hW hS => ?_)
  replace h := z_ly h e1
  clear e1
  refine lv_aload_n hx hb dX9_tellFacts_46 rfl (lv_at hl 2 rfl) ?_
  refine z_getr (o := w + 8) C0 hW fl_X9_33 hw.1 rfl (hw.2.1 7 (by decide)).1 dX9_tellFacts_47 ?_
  refine lv_iconst (v := (3 : Int32)) hx hb dX9_tellFacts_50 (by decide) ?_
  refine lv_aload_n hx hb dX9_tellFacts_51 rfl (lv_at hl 2 rfl) ?_
  refine z_getr (o := w + 6) C0 hW fl_X9_27 hw.1 rfl (hw.2.1 5 (by decide)).1 dX9_tellFacts_52 ?_
  refine lv_iload_n hx hb dX9_tellFacts_55 rfl (lv_at hl 0 rfl) ?_
  replace h := z_if h
  obtain ⟨hin, h⟩ := h
  refine z_iald (n := 8) C0 hW (hw.2.1 5 (by decide)).2.1 (hw.2.1 5 (by decide)).2.2 hin rfl dX9_tellFacts_56 ?_
  clear hin
  refine lv_topi (fun z9 e1 => ?_)
  replace h := z_ly h e1
  clear e1
  refine z_iast (k := 3) (n := 9) C0 hW hS (hw.2.1 7 (by decide)).2.1 (hw.2.1 7 (by decide)).2.2 (by decide) (by decide) dX9_tellFacts_57 (fun H locs u10 e1 hW hS => ?_)
  replace h := z_ly h e1
  clear e1
  refine lv_aload_n hx hb dX9_tellFacts_58 rfl (lv_at hl 2 rfl) ?_
  refine z_getr (o := w + 8) C0 hW fl_X9_33 hw.1 rfl (hw.2.1 7 (by decide)).1 dX9_tellFacts_59 ?_
  refine lv_iconst (v := (4 : Int32)) hx hb dX9_tellFacts_62 (by decide) ?_
  refine lv_aload_n hx hb dX9_tellFacts_63 rfl (lv_at hl 2 rfl) ?_
  refine z_geti C0 hW fl_X9_58 hw.1 rfl dX9_tellFacts_64 ?_
  refine z_iast (k := 4) (n := 9) C0 hW hS (hw.2.1 7 (by decide)).2.1 (hw.2.1 7 (by decide)).2.2 (by decide) (by decide) dX9_tellFacts_67 (fun H locs u11 e1 hW hS => ?_)
  replace h := z_ly h e1
  clear e1
  refine lv_aload_n hx hb dX9_tellFacts_68 rfl (lv_at hl 2 rfl) ?_
  refine z_getr (o := w + 8) C0 hW fl_X9_33 hw.1 rfl (hw.2.1 7 (by decide)).1 dX9_tellFacts_69 ?_
  refine lv_iconst (v := (5 : Int32)) hx hb dX9_tellFacts_72 (by decide) ?_
  refine lv_aload_n hx hb dX9_tellFacts_73 rfl (lv_at hl 2 rfl) ?_
  refine lv_iload_n hx hb dX9_tellFacts_74 rfl (lv_at hl 0 rfl) ?_
  obtain ⟨r12, hq⟩ : ∃ y, f_X9_height w L z3 u11 = y := ⟨_, rfl⟩
  replace h := z_lz h hq
  refine z_cvi (As := [.int z3]) C0 hml hl.1 hW hS (c_X9_height l D A b g w L hw z3 u11 hq) mv_X9_121 hw.1 ⟨Nat.le_of_ble_eq_true rfl, Nat.le_of_ble_eq_true rfl⟩ rfl rfl (Nat.le_of_ble_eq_true rfl) dX9_tellFacts_75 (fun H locs hW hS => ?_)
  clear hq
  refine z_iast (k := 5) (n := 9) C0 hW hS (hw.2.1 7 (by decide)).2.1 (hw.2.1 7 (by decide)).2.2 (by decide) (by decide) dX9_tellFacts_78 (fun H locs u13 e1 hW hS => ?_)
  replace h := z_ly h e1
  clear e1
  refine lv_aload_n hx hb dX9_tellFacts_79 rfl (lv_at hl 2 rfl) ?_
  refine z_getr (o := w + 8) C0 hW fl_X9_33 hw.1 rfl (hw.2.1 7 (by decide)).1 dX9_tellFacts_80 ?_
  refine lv_bipush (v := (6 : Int32)) hx hb dX9_tellFacts_83 (by decide) ?_
  refine lv_aload_n hx hb dX9_tellFacts_85 rfl (lv_at hl 2 rfl) ?_
  refine z_geti C0 hW fl_X9_46 hw.1 rfl dX9_tellFacts_86 ?_
  refine lv_bipush (v := (100 : Int32)) hx hb dX9_tellFacts_89 (by decide) ?_
  refine lv_idiv hx hb dX9_tellFacts_91 (by decide) ?_
  refine z_iast (k := 6) (n := 9) C0 hW hS (hw.2.1 7 (by decide)).2.1 (hw.2.1 7 (by decide)).2.2 (by decide) (by decide) dX9_tellFacts_92 (fun H locs u14 e1 hW hS => ?_)
  replace h := z_ly h e1
  clear e1
  refine lv_aload_n hx hb dX9_tellFacts_93 rfl (lv_at hl 2 rfl) ?_
  refine z_getr (o := w + 8) C0 hW fl_X9_33 hw.1 rfl (hw.2.1 7 (by decide)).1 dX9_tellFacts_94 ?_
  refine lv_bipush (v := (7 : Int32)) hx hb dX9_tellFacts_97 (by decide) ?_
  refine lv_aload_n hx hb dX9_tellFacts_99 rfl (lv_at hl 2 rfl) ?_
  refine z_getr (o := w + 3) C0 hW fl_X9_18 hw.1 rfl (hw.2.1 2 (by decide)).1 dX9_tellFacts_100 ?_
  refine lv_iload_n hx hb dX9_tellFacts_103 rfl (lv_at hl 1 rfl) ?_
  replace h := z_if h
  obtain ⟨hin, h⟩ := h
  refine z_iald (n := 8) C0 hW (hw.2.1 2 (by decide)).2.1 (hw.2.1 2 (by decide)).2.2 hin rfl dX9_tellFacts_104 ?_
  clear hin
  refine lv_topi (fun z15 e1 => ?_)
  replace h := z_ly h e1
  clear e1
  refine lv_bipush (v := (50 : Int32)) hx hb dX9_tellFacts_105 (by decide) ?_
  refine lv_icmp_lt (tgt := 114) hx hb dX9_tellFacts_107 (by decide) (fun hc => ?_) (fun hc => ?_)
  · replace h := z_t h hc
    clear hc
    refine lv_iconst (v := (0 : Int32)) hx hb dX9_tellFacts_114 (by decide) ?_
    refine z_iast (k := 7) (n := 9) C0 hW hS (hw.2.1 7 (by decide)).2.1 (hw.2.1 7 (by decide)).2.2 (by decide) (by decide) dX9_tellFacts_115 (fun H locs u16 e1 hW hS => ?_)
    replace h := z_ly h e1
    clear e1
    refine lv_aload_n hx hb dX9_tellFacts_116 rfl (lv_at hl 2 rfl) ?_
    refine z_getr (o := w + 8) C0 hW fl_X9_33 hw.1 rfl (hw.2.1 7 (by decide)).1 dX9_tellFacts_117 ?_
    refine lv_bipush (v := (8 : Int32)) hx hb dX9_tellFacts_120 (by decide) ?_
    refine lv_aload_n hx hb dX9_tellFacts_122 rfl (lv_at hl 2 rfl) ?_
    refine lv_iload_n hx hb dX9_tellFacts_123 rfl (lv_at hl 0 rfl) ?_
    replace h := z_bd h
    obtain ⟨r17, hq, h⟩ := h
    refine z_cvi (As := [.int z3]) C0 hml hl.1 hW hS (c_X9_ridersIn l D A b g w L hw z3 u16 hq) mv_X9_92 hw.1 ⟨Nat.le_of_ble_eq_true rfl, Nat.le_of_ble_eq_true rfl⟩ rfl rfl (Nat.le_of_ble_eq_true rfl) dX9_tellFacts_124 (fun H locs hW hS => ?_)
    clear hq
    refine lv_iconst (v := (1 : Int32)) hx hb dX9_tellFacts_127 (by decide) ?_
    refine lv_iload_n hx hb dX9_tellFacts_128 rfl (lv_at hl 1 rfl) ?_
    refine lv_ishl hx hb dX9_tellFacts_129 ?_
    refine lv_icmp_ne (tgt := 137) hx hb dX9_tellFacts_130 (by decide) (fun hc => ?_) (fun hc => ?_)
    · replace h := z_f h hc
      clear hc
      refine lv_iconst (v := (0 : Int32)) hx hb dX9_tellFacts_137 (by decide) ?_
      refine z_iast (k := 8) (n := 9) C0 hW hS (hw.2.1 7 (by decide)).2.1 (hw.2.1 7 (by decide)).2.2 (by decide) (by decide) dX9_tellFacts_138 (fun H locs u18 e1 hW hS => ?_)
      replace h := z_ly h e1
      clear e1
      cases h
      exact z_vret C0 hr hlk hW hS dX9_tellFacts_139
    · replace h := z_t h hc
      clear hc
      refine lv_iconst (v := (1 : Int32)) hx hb dX9_tellFacts_133 (by decide) ?_
      refine lv_goto (tgt := 138) hx hb dX9_tellFacts_134 (by decide) ?_
      refine z_iast (k := 8) (n := 9) C0 hW hS (hw.2.1 7 (by decide)).2.1 (hw.2.1 7 (by decide)).2.2 (by decide) (by decide) dX9_tellFacts_138 (fun H locs u19 e1 hW hS => ?_)
      replace h := z_ly h e1
      clear e1
      cases h
      exact z_vret C0 hr hlk hW hS dX9_tellFacts_139
  · replace h := z_f h hc
    clear hc
    refine lv_iconst (v := (1 : Int32)) hx hb dX9_tellFacts_110 (by decide) ?_
    refine lv_goto (tgt := 115) hx hb dX9_tellFacts_111 (by decide) ?_
    refine z_iast (k := 7) (n := 9) C0 hW hS (hw.2.1 7 (by decide)).2.1 (hw.2.1 7 (by decide)).2.2 (by decide) (by decide) dX9_tellFacts_115 (fun H locs u20 e1 hW hS => ?_)
    replace h := z_ly h e1
    clear e1
    refine lv_aload_n hx hb dX9_tellFacts_116 rfl (lv_at hl 2 rfl) ?_
    refine z_getr (o := w + 8) C0 hW fl_X9_33 hw.1 rfl (hw.2.1 7 (by decide)).1 dX9_tellFacts_117 ?_
    refine lv_bipush (v := (8 : Int32)) hx hb dX9_tellFacts_120 (by decide) ?_
    refine lv_aload_n hx hb dX9_tellFacts_122 rfl (lv_at hl 2 rfl) ?_
    refine lv_iload_n hx hb dX9_tellFacts_123 rfl (lv_at hl 0 rfl) ?_
    replace h := z_bd h
    obtain ⟨r21, hq, h⟩ := h
    refine z_cvi (As := [.int z3]) C0 hml hl.1 hW hS (c_X9_ridersIn l D A b g w L hw z3 u20 hq) mv_X9_92 hw.1 ⟨Nat.le_of_ble_eq_true rfl, Nat.le_of_ble_eq_true rfl⟩ rfl rfl (Nat.le_of_ble_eq_true rfl) dX9_tellFacts_124 (fun H locs hW hS => ?_)
    clear hq
    refine lv_iconst (v := (1 : Int32)) hx hb dX9_tellFacts_127 (by decide) ?_
    refine lv_iload_n hx hb dX9_tellFacts_128 rfl (lv_at hl 1 rfl) ?_
    refine lv_ishl hx hb dX9_tellFacts_129 ?_
    refine lv_icmp_ne (tgt := 137) hx hb dX9_tellFacts_130 (by decide) (fun hc => ?_) (fun hc => ?_)
    · replace h := z_f h hc
      clear hc
      refine lv_iconst (v := (0 : Int32)) hx hb dX9_tellFacts_137 (by decide) ?_
      refine z_iast (k := 8) (n := 9) C0 hW hS (hw.2.1 7 (by decide)).2.1 (hw.2.1 7 (by decide)).2.2 (by decide) (by decide) dX9_tellFacts_138 (fun H locs u22 e1 hW hS => ?_)
      replace h := z_ly h e1
      clear e1
      cases h
      exact z_vret C0 hr hlk hW hS dX9_tellFacts_139
    · replace h := z_t h hc
      clear hc
      refine lv_iconst (v := (1 : Int32)) hx hb dX9_tellFacts_133 (by decide) ?_
      refine lv_goto (tgt := 138) hx hb dX9_tellFacts_134 (by decide) ?_
      refine z_iast (k := 8) (n := 9) C0 hW hS (hw.2.1 7 (by decide)).2.1 (hw.2.1 7 (by decide)).2.2 (by decide) (by decide) dX9_tellFacts_138 (fun H locs u23 e1 hW hS => ?_)
      replace h := z_ly h e1
      clear e1
      cases h
      exact z_vret C0 hr hlk hW hS dX9_tellFacts_139
