def f_X11_dole (a1 : Int32) (a2 : Int32) (u : zU) : Option (Int32 × zU) :=
  z_let (f_X11_isRider a1 u) (fun t1 => if t1 = true then (z_let (f_X11_isIn a2 (1 : Int32) (u 1 6) u) (fun t2 => if t2 = true then (z_let (z_up u 0 0 (0 : Int32)) (fun u3 => if (u3 0 0) ≤ 0 then ((f_X11_remembers u3).bind (fun u4 => z_let (z_up u4 1 6 ((u4 1 6) - a2)) (fun u5 => (f_X11_of a1 (2 : Int32) u5).bind (fun r6 => z_let (f_X11_lesser (999 : Int32) (r6 + a2) u5) (fun r7 => (f_X11_put a1 (2 : Int32) r7 u5).bind (fun u8 => (f_X11_of a1 (2 : Int32) u8).bind (fun r9 => some (r9, u8)))))))) else (some ((0 : Int32), u3)))) else (z_let (z_up u 0 0 (2 : Int32)) (fun u10 => if (u10 0 0) ≤ 0 then ((f_X11_remembers u10).bind (fun u11 => z_let (z_up u11 1 6 ((u11 1 6) - a2)) (fun u12 => (f_X11_of a1 (2 : Int32) u12).bind (fun r13 => z_let (f_X11_lesser (999 : Int32) (r13 + a2) u12) (fun r14 => (f_X11_put a1 (2 : Int32) r14 u12).bind (fun u15 => (f_X11_of a1 (2 : Int32) u15).bind (fun r16 => some (r16, u15)))))))) else (some ((0 : Int32), u10)))))) else (z_let (z_up u 0 0 (1 : Int32)) (fun u17 => if (u17 0 0) ≤ 0 then ((f_X11_remembers u17).bind (fun u18 => z_let (z_up u18 1 6 ((u18 1 6) - a2)) (fun u19 => (f_X11_of a1 (2 : Int32) u19).bind (fun r20 => z_let (f_X11_lesser (999 : Int32) (r20 + a2) u19) (fun r21 => (f_X11_put a1 (2 : Int32) r21 u19).bind (fun u22 => (f_X11_of a1 (2 : Int32) u22).bind (fun r23 => some (r23, u22)))))))) else (some ((0 : Int32), u17)))))
theorem f_X11_dole_e (a1 : Int32) (a2 : Int32) (u : zU) : f_X11_dole a1 a2 u = z_let (f_X11_isRider a1 u) (fun t1 => if t1 = true then (z_let (f_X11_isIn a2 (1 : Int32) (u 1 6) u) (fun t2 => if t2 = true then (z_let (z_up u 0 0 (0 : Int32)) (fun u3 => if (u3 0 0) ≤ 0 then ((f_X11_remembers u3).bind (fun u4 => z_let (z_up u4 1 6 ((u4 1 6) - a2)) (fun u5 => (f_X11_of a1 (2 : Int32) u5).bind (fun r6 => z_let (f_X11_lesser (999 : Int32) (r6 + a2) u5) (fun r7 => (f_X11_put a1 (2 : Int32) r7 u5).bind (fun u8 => (f_X11_of a1 (2 : Int32) u8).bind (fun r9 => some (r9, u8)))))))) else (some ((0 : Int32), u3)))) else (z_let (z_up u 0 0 (2 : Int32)) (fun u10 => if (u10 0 0) ≤ 0 then ((f_X11_remembers u10).bind (fun u11 => z_let (z_up u11 1 6 ((u11 1 6) - a2)) (fun u12 => (f_X11_of a1 (2 : Int32) u12).bind (fun r13 => z_let (f_X11_lesser (999 : Int32) (r13 + a2) u12) (fun r14 => (f_X11_put a1 (2 : Int32) r14 u12).bind (fun u15 => (f_X11_of a1 (2 : Int32) u15).bind (fun r16 => some (r16, u15)))))))) else (some ((0 : Int32), u10)))))) else (z_let (z_up u 0 0 (1 : Int32)) (fun u17 => if (u17 0 0) ≤ 0 then ((f_X11_remembers u17).bind (fun u18 => z_let (z_up u18 1 6 ((u18 1 6) - a2)) (fun u19 => (f_X11_of a1 (2 : Int32) u19).bind (fun r20 => z_let (f_X11_lesser (999 : Int32) (r20 + a2) u19) (fun r21 => (f_X11_put a1 (2 : Int32) r21 u19).bind (fun u22 => (f_X11_of a1 (2 : Int32) u22).bind (fun r23 => some (r23, u22)))))))) else (some ((0 : Int32), u17))))) := rfl
set_option maxRecDepth 100000 in
set_option maxHeartbeats 4000000 in
theorem c_X11_dole (l : Launch) (D : zD) (A : Nat → Prop) (b : Nat) (a1 : Int32) (a2 : Int32) (u : zU) {v : Int32} {u' : zU} (h : f_X11_dole a1 a2 u = some (v, u')) : z_M l D A b gM yX11_dole cX11_dole 3 (some .int) 2 43 [.ref (b + 0), .int a1, .int a2] u (some (.int v)) u' := by
  refine z_enter (by decide) (Nat.le_of_ble_eq_true rfl) ?_
  intro p e s m below meth c ls C0 hr hml hlk hW hS hl
  have hl : lv_has ls 3 [(0, .ref (b + 0)), (1, .int a1), (2, .int a2)] := hl
  have hx := C0.1
  have hb := C0.2.1
  rw [f_X11_dole_e] at h
  refine lv_aload_n hx hb dX11_dole_0 rfl (lv_at hl 0 rfl) ?_
  refine lv_aload_n hx hb dX11_dole_1 rfl (lv_at hl 0 rfl) ?_
  refine lv_iload_n hx hb dX11_dole_2 rfl (lv_at hl 1 rfl) ?_
  obtain ⟨t1, hq⟩ : ∃ y, f_X11_isRider a1 u = y := ⟨_, rfl⟩
  replace h := z_lz h hq
  refine z_cvi (As := [.int a1]) C0 hml hl.1 hW hS (c_X11_isRider l D A b a1 u hq) mv_X11_291 rfl ⟨Nat.le_of_ble_eq_true rfl, Nat.le_of_ble_eq_true rfl⟩ rfl rfl (Nat.le_of_ble_eq_true rfl) dX11_dole_3 (fun H locs hW hS => ?_)
  clear hq
  refine z_ifneZ C0 (tgt := 13) dX11_dole_6 (by decide) (fun hc => ?_) (fun hc => ?_)
  · replace h := z_t h hc
    clear hc
    refine lv_iload_n hx hb dX11_dole_13 rfl (lv_at hl 2 rfl) ?_
    refine lv_iconst (v := (1 : Int32)) hx hb dX11_dole_14 (by decide) ?_
    refine lv_aload_n hx hb dX11_dole_15 rfl (lv_at hl 0 rfl) ?_
    refine z_getr (o := 1) C0 hW fl_X11_7 rfl rfl rfl dX11_dole_16 ?_
    refine lv_bipush (v := (6 : Int32)) hx hb dX11_dole_19 (by decide) ?_
    refine z_iald (k := 6) (n := 705) C0 hW rfl rfl (by decide) (by decide) dX11_dole_21 ?_
    obtain ⟨t2, hq⟩ : ∃ y, f_X11_isIn a2 (1 : Int32) (u 1 6) u = y := ⟨_, rfl⟩
    replace h := z_lz h hq
    refine z_csi (As := [.int a2, .int (1 : Int32), .int (u 1 6)]) C0 hml hl.1 hW hS (c_X11_isIn l D A b a2 (1 : Int32) (u 1 6) u hq) ms_X11_45 ⟨Nat.le_of_ble_eq_true rfl, Nat.le_of_ble_eq_true rfl⟩ rfl rfl (Nat.le_of_ble_eq_true rfl) dX11_dole_22 (fun H locs hW hS => ?_)
    clear hq
    refine z_ifneZ C0 (tgt := 32) dX11_dole_25 (by decide) (fun hc => ?_) (fun hc => ?_)
    · replace h := z_t h hc
      clear hc
      refine lv_iconst (v := (0 : Int32)) hx hb dX11_dole_32 (by decide) ?_
      refine z_puti C0 hW hS fl_X11_42 rfl rfl rfl rfl dX11_dole_33 (fun H locs u3 e1 hW hS => ?_)
      replace h := z_ly h e1
      clear e1
      refine lv_aload_n hx hb dX11_dole_36 rfl (lv_at hl 0 rfl) ?_
      refine z_geti C0 hW fl_X11_42 rfl rfl dX11_dole_37 ?_
      refine lv_if_le (tgt := 45) hx hb dX11_dole_40 (by decide) (fun hc => ?_) (fun hc => ?_)
      · replace h := z_t h hc
        clear hc
        refine lv_aload_n hx hb dX11_dole_45 rfl (lv_at hl 0 rfl) ?_
        replace h := z_bd h
        obtain ⟨u4, hq, h⟩ := h
        refine z_cvv (As := []) C0 hml hl.1 hW hS (c_X11_remembers l D A b u3 hq) mv_X11_318 rfl ⟨Nat.le_of_ble_eq_true rfl, Nat.le_of_ble_eq_true rfl⟩ rfl rfl (Nat.le_of_ble_eq_true rfl) dX11_dole_46 (fun H locs hW hS => ?_)
        clear hq
        refine lv_aload_n hx hb dX11_dole_49 rfl (lv_at hl 0 rfl) ?_
        refine z_getr (o := 1) C0 hW fl_X11_7 rfl rfl rfl dX11_dole_50 ?_
        refine lv_bipush (v := (6 : Int32)) hx hb dX11_dole_53 (by decide) ?_
        refine lv_dup2_11 hx hb dX11_dole_55 rfl rfl ?_
        refine z_iald (k := 6) (n := 705) C0 hW rfl rfl (by decide) (by decide) dX11_dole_56 ?_
        refine lv_iload_n hx hb dX11_dole_57 rfl (lv_at hl 2 rfl) ?_
        refine lv_isub hx hb dX11_dole_58 ?_
        refine z_iast (k := 6) (n := 705) C0 hW hS rfl rfl (by decide) (by decide) dX11_dole_59 (fun H locs u5 e1 hW hS => ?_)
        replace h := z_ly h e1
        clear e1
        refine lv_aload_n hx hb dX11_dole_60 rfl (lv_at hl 0 rfl) ?_
        refine lv_iload_n hx hb dX11_dole_61 rfl (lv_at hl 1 rfl) ?_
        refine lv_iconst (v := (2 : Int32)) hx hb dX11_dole_62 (by decide) ?_
        refine lv_sipush (v := (999 : Int32)) hx hb dX11_dole_63 (by decide) ?_
        refine lv_aload_n hx hb dX11_dole_66 rfl (lv_at hl 0 rfl) ?_
        refine lv_iload_n hx hb dX11_dole_67 rfl (lv_at hl 1 rfl) ?_
        refine lv_iconst (v := (2 : Int32)) hx hb dX11_dole_68 (by decide) ?_
        replace h := z_bd h
        obtain ⟨r6, hq, h⟩ := h
        refine z_cvi (As := [.int a1, .int (2 : Int32)]) C0 hml hl.1 hW hS (c_X11_of l D A b a1 (2 : Int32) u5 hq) mv_X11_49 rfl ⟨Nat.le_of_ble_eq_true rfl, Nat.le_of_ble_eq_true rfl⟩ rfl rfl (Nat.le_of_ble_eq_true rfl) dX11_dole_69 (fun H locs hW hS => ?_)
        clear hq
        refine lv_iload_n hx hb dX11_dole_72 rfl (lv_at hl 2 rfl) ?_
        refine lv_iadd hx hb dX11_dole_73 ?_
        obtain ⟨r7, hq⟩ : ∃ y, f_X11_lesser (999 : Int32) (r6 + a2) u5 = y := ⟨_, rfl⟩
        replace h := z_lz h hq
        refine z_csi (As := [.int (999 : Int32), .int (r6 + a2)]) C0 hml hl.1 hW hS (c_X11_lesser l D A b (999 : Int32) (r6 + a2) u5 hq) ms_X11_63 ⟨Nat.le_of_ble_eq_true rfl, Nat.le_of_ble_eq_true rfl⟩ rfl rfl (Nat.le_of_ble_eq_true rfl) dX11_dole_74 (fun H locs hW hS => ?_)
        clear hq
        replace h := z_bd h
        obtain ⟨u8, hq, h⟩ := h
        refine z_cvv (As := [.int a1, .int (2 : Int32), .int r7]) C0 hml hl.1 hW hS (c_X11_put l D A b a1 (2 : Int32) r7 u5 hq) mv_X11_66 rfl ⟨Nat.le_of_ble_eq_true rfl, Nat.le_of_ble_eq_true rfl⟩ rfl rfl (Nat.le_of_ble_eq_true rfl) dX11_dole_77 (fun H locs hW hS => ?_)
        clear hq
        refine lv_aload_n hx hb dX11_dole_80 rfl (lv_at hl 0 rfl) ?_
        refine lv_iload_n hx hb dX11_dole_81 rfl (lv_at hl 1 rfl) ?_
        refine lv_iconst (v := (2 : Int32)) hx hb dX11_dole_82 (by decide) ?_
        replace h := z_bd h
        obtain ⟨r9, hq, h⟩ := h
        refine z_cvi (As := [.int a1, .int (2 : Int32)]) C0 hml hl.1 hW hS (c_X11_of l D A b a1 (2 : Int32) u8 hq) mv_X11_49 rfl ⟨Nat.le_of_ble_eq_true rfl, Nat.le_of_ble_eq_true rfl⟩ rfl rfl (Nat.le_of_ble_eq_true rfl) dX11_dole_83 (fun H locs hW hS => ?_)
        clear hq
        cases h
        exact z_iret C0 hr hlk hW hS dX11_dole_86
      · replace h := z_f h hc
        clear hc
        refine lv_iconst (v := (0 : Int32)) hx hb dX11_dole_43 (by decide) ?_
        cases h
        exact z_iret C0 hr hlk hW hS dX11_dole_44
    · replace h := z_ff h hc
      clear hc
      refine lv_iconst (v := (2 : Int32)) hx hb dX11_dole_28 (by decide) ?_
      refine lv_goto (tgt := 33) hx hb dX11_dole_29 (by decide) ?_
      refine z_puti C0 hW hS fl_X11_42 rfl rfl rfl rfl dX11_dole_33 (fun H locs u10 e1 hW hS => ?_)
      replace h := z_ly h e1
      clear e1
      refine lv_aload_n hx hb dX11_dole_36 rfl (lv_at hl 0 rfl) ?_
      refine z_geti C0 hW fl_X11_42 rfl rfl dX11_dole_37 ?_
      refine lv_if_le (tgt := 45) hx hb dX11_dole_40 (by decide) (fun hc => ?_) (fun hc => ?_)
      · replace h := z_t h hc
        clear hc
        refine lv_aload_n hx hb dX11_dole_45 rfl (lv_at hl 0 rfl) ?_
        replace h := z_bd h
        obtain ⟨u11, hq, h⟩ := h
        refine z_cvv (As := []) C0 hml hl.1 hW hS (c_X11_remembers l D A b u10 hq) mv_X11_318 rfl ⟨Nat.le_of_ble_eq_true rfl, Nat.le_of_ble_eq_true rfl⟩ rfl rfl (Nat.le_of_ble_eq_true rfl) dX11_dole_46 (fun H locs hW hS => ?_)
        clear hq
        refine lv_aload_n hx hb dX11_dole_49 rfl (lv_at hl 0 rfl) ?_
        refine z_getr (o := 1) C0 hW fl_X11_7 rfl rfl rfl dX11_dole_50 ?_
        refine lv_bipush (v := (6 : Int32)) hx hb dX11_dole_53 (by decide) ?_
        refine lv_dup2_11 hx hb dX11_dole_55 rfl rfl ?_
        refine z_iald (k := 6) (n := 705) C0 hW rfl rfl (by decide) (by decide) dX11_dole_56 ?_
        refine lv_iload_n hx hb dX11_dole_57 rfl (lv_at hl 2 rfl) ?_
        refine lv_isub hx hb dX11_dole_58 ?_
        refine z_iast (k := 6) (n := 705) C0 hW hS rfl rfl (by decide) (by decide) dX11_dole_59 (fun H locs u12 e1 hW hS => ?_)
        replace h := z_ly h e1
        clear e1
        refine lv_aload_n hx hb dX11_dole_60 rfl (lv_at hl 0 rfl) ?_
        refine lv_iload_n hx hb dX11_dole_61 rfl (lv_at hl 1 rfl) ?_
        refine lv_iconst (v := (2 : Int32)) hx hb dX11_dole_62 (by decide) ?_
        refine lv_sipush (v := (999 : Int32)) hx hb dX11_dole_63 (by decide) ?_
        refine lv_aload_n hx hb dX11_dole_66 rfl (lv_at hl 0 rfl) ?_
        refine lv_iload_n hx hb dX11_dole_67 rfl (lv_at hl 1 rfl) ?_
        refine lv_iconst (v := (2 : Int32)) hx hb dX11_dole_68 (by decide) ?_
        replace h := z_bd h
        obtain ⟨r13, hq, h⟩ := h
        refine z_cvi (As := [.int a1, .int (2 : Int32)]) C0 hml hl.1 hW hS (c_X11_of l D A b a1 (2 : Int32) u12 hq) mv_X11_49 rfl ⟨Nat.le_of_ble_eq_true rfl, Nat.le_of_ble_eq_true rfl⟩ rfl rfl (Nat.le_of_ble_eq_true rfl) dX11_dole_69 (fun H locs hW hS => ?_)
        clear hq
        refine lv_iload_n hx hb dX11_dole_72 rfl (lv_at hl 2 rfl) ?_
        refine lv_iadd hx hb dX11_dole_73 ?_
        obtain ⟨r14, hq⟩ : ∃ y, f_X11_lesser (999 : Int32) (r13 + a2) u12 = y := ⟨_, rfl⟩
        replace h := z_lz h hq
        refine z_csi (As := [.int (999 : Int32), .int (r13 + a2)]) C0 hml hl.1 hW hS (c_X11_lesser l D A b (999 : Int32) (r13 + a2) u12 hq) ms_X11_63 ⟨Nat.le_of_ble_eq_true rfl, Nat.le_of_ble_eq_true rfl⟩ rfl rfl (Nat.le_of_ble_eq_true rfl) dX11_dole_74 (fun H locs hW hS => ?_)
        clear hq
        replace h := z_bd h
        obtain ⟨u15, hq, h⟩ := h
        refine z_cvv (As := [.int a1, .int (2 : Int32), .int r14]) C0 hml hl.1 hW hS (c_X11_put l D A b a1 (2 : Int32) r14 u12 hq) mv_X11_66 rfl ⟨Nat.le_of_ble_eq_true rfl, Nat.le_of_ble_eq_true rfl⟩ rfl rfl (Nat.le_of_ble_eq_true rfl) dX11_dole_77 (fun H locs hW hS => ?_)
        clear hq
        refine lv_aload_n hx hb dX11_dole_80 rfl (lv_at hl 0 rfl) ?_
        refine lv_iload_n hx hb dX11_dole_81 rfl (lv_at hl 1 rfl) ?_
        refine lv_iconst (v := (2 : Int32)) hx hb dX11_dole_82 (by decide) ?_
        replace h := z_bd h
        obtain ⟨r16, hq, h⟩ := h
        refine z_cvi (As := [.int a1, .int (2 : Int32)]) C0 hml hl.1 hW hS (c_X11_of l D A b a1 (2 : Int32) u15 hq) mv_X11_49 rfl ⟨Nat.le_of_ble_eq_true rfl, Nat.le_of_ble_eq_true rfl⟩ rfl rfl (Nat.le_of_ble_eq_true rfl) dX11_dole_83 (fun H locs hW hS => ?_)
        clear hq
        cases h
        exact z_iret C0 hr hlk hW hS dX11_dole_86
      · replace h := z_f h hc
        clear hc
        refine lv_iconst (v := (0 : Int32)) hx hb dX11_dole_43 (by decide) ?_
        cases h
        exact z_iret C0 hr hlk hW hS dX11_dole_44
  · replace h := z_ff h hc
    clear hc
    refine lv_iconst (v := (1 : Int32)) hx hb dX11_dole_9 (by decide) ?_
    refine lv_goto (tgt := 33) hx hb dX11_dole_10 (by decide) ?_
    refine z_puti C0 hW hS fl_X11_42 rfl rfl rfl rfl dX11_dole_33 (fun H locs u17 e1 hW hS => ?_)
    replace h := z_ly h e1
    clear e1
    refine lv_aload_n hx hb dX11_dole_36 rfl (lv_at hl 0 rfl) ?_
    refine z_geti C0 hW fl_X11_42 rfl rfl dX11_dole_37 ?_
    refine lv_if_le (tgt := 45) hx hb dX11_dole_40 (by decide) (fun hc => ?_) (fun hc => ?_)
    · replace h := z_t h hc
      clear hc
      refine lv_aload_n hx hb dX11_dole_45 rfl (lv_at hl 0 rfl) ?_
      replace h := z_bd h
      obtain ⟨u18, hq, h⟩ := h
      refine z_cvv (As := []) C0 hml hl.1 hW hS (c_X11_remembers l D A b u17 hq) mv_X11_318 rfl ⟨Nat.le_of_ble_eq_true rfl, Nat.le_of_ble_eq_true rfl⟩ rfl rfl (Nat.le_of_ble_eq_true rfl) dX11_dole_46 (fun H locs hW hS => ?_)
      clear hq
      refine lv_aload_n hx hb dX11_dole_49 rfl (lv_at hl 0 rfl) ?_
      refine z_getr (o := 1) C0 hW fl_X11_7 rfl rfl rfl dX11_dole_50 ?_
      refine lv_bipush (v := (6 : Int32)) hx hb dX11_dole_53 (by decide) ?_
      refine lv_dup2_11 hx hb dX11_dole_55 rfl rfl ?_
      refine z_iald (k := 6) (n := 705) C0 hW rfl rfl (by decide) (by decide) dX11_dole_56 ?_
      refine lv_iload_n hx hb dX11_dole_57 rfl (lv_at hl 2 rfl) ?_
      refine lv_isub hx hb dX11_dole_58 ?_
      refine z_iast (k := 6) (n := 705) C0 hW hS rfl rfl (by decide) (by decide) dX11_dole_59 (fun H locs u19 e1 hW hS => ?_)
      replace h := z_ly h e1
      clear e1
      refine lv_aload_n hx hb dX11_dole_60 rfl (lv_at hl 0 rfl) ?_
      refine lv_iload_n hx hb dX11_dole_61 rfl (lv_at hl 1 rfl) ?_
      refine lv_iconst (v := (2 : Int32)) hx hb dX11_dole_62 (by decide) ?_
      refine lv_sipush (v := (999 : Int32)) hx hb dX11_dole_63 (by decide) ?_
      refine lv_aload_n hx hb dX11_dole_66 rfl (lv_at hl 0 rfl) ?_
      refine lv_iload_n hx hb dX11_dole_67 rfl (lv_at hl 1 rfl) ?_
      refine lv_iconst (v := (2 : Int32)) hx hb dX11_dole_68 (by decide) ?_
      replace h := z_bd h
      obtain ⟨r20, hq, h⟩ := h
      refine z_cvi (As := [.int a1, .int (2 : Int32)]) C0 hml hl.1 hW hS (c_X11_of l D A b a1 (2 : Int32) u19 hq) mv_X11_49 rfl ⟨Nat.le_of_ble_eq_true rfl, Nat.le_of_ble_eq_true rfl⟩ rfl rfl (Nat.le_of_ble_eq_true rfl) dX11_dole_69 (fun H locs hW hS => ?_)
      clear hq
      refine lv_iload_n hx hb dX11_dole_72 rfl (lv_at hl 2 rfl) ?_
      refine lv_iadd hx hb dX11_dole_73 ?_
      obtain ⟨r21, hq⟩ : ∃ y, f_X11_lesser (999 : Int32) (r20 + a2) u19 = y := ⟨_, rfl⟩
      replace h := z_lz h hq
      refine z_csi (As := [.int (999 : Int32), .int (r20 + a2)]) C0 hml hl.1 hW hS (c_X11_lesser l D A b (999 : Int32) (r20 + a2) u19 hq) ms_X11_63 ⟨Nat.le_of_ble_eq_true rfl, Nat.le_of_ble_eq_true rfl⟩ rfl rfl (Nat.le_of_ble_eq_true rfl) dX11_dole_74 (fun H locs hW hS => ?_)
      clear hq
      replace h := z_bd h
      obtain ⟨u22, hq, h⟩ := h
      refine z_cvv (As := [.int a1, .int (2 : Int32), .int r21]) C0 hml hl.1 hW hS (c_X11_put l D A b a1 (2 : Int32) r21 u19 hq) mv_X11_66 rfl ⟨Nat.le_of_ble_eq_true rfl, Nat.le_of_ble_eq_true rfl⟩ rfl rfl (Nat.le_of_ble_eq_true rfl) dX11_dole_77 (fun H locs hW hS => ?_)
      clear hq
      refine lv_aload_n hx hb dX11_dole_80 rfl (lv_at hl 0 rfl) ?_
      refine lv_iload_n hx hb dX11_dole_81 rfl (lv_at hl 1 rfl) ?_
      refine lv_iconst (v := (2 : Int32)) hx hb dX11_dole_82 (by decide) ?_
      replace h := z_bd h
      obtain ⟨r23, hq, h⟩ := h
      refine z_cvi (As := [.int a1, .int (2 : Int32)]) C0 hml hl.1 hW hS (c_X11_of l D A b a1 (2 : Int32) u22 hq) mv_X11_49 rfl ⟨Nat.le_of_ble_eq_true rfl, Nat.le_of_ble_eq_true rfl⟩ rfl rfl (Nat.le_of_ble_eq_true rfl) dX11_dole_83 (fun H locs hW hS => ?_)
      clear hq
      cases h
      exact z_iret C0 hr hlk hW hS dX11_dole_86
    · replace h := z_f h hc
      clear hc
      refine lv_iconst (v := (0 : Int32)) hx hb dX11_dole_43 (by decide) ?_
      cases h
      exact z_iret C0 hr hlk hW hS dX11_dole_44
def f_X11_fare (a1 : Int32) (u : zU) : Option (Int32 × zU) :=
  z_let (f_X11_isIn a1 (0 : Int32) (99 : Int32) u) (fun t1 => if t1 = true then (z_let (z_up u 0 0 (0 : Int32)) (fun u2 => if (u2 0 0) ≤ 0 then ((f_X11_remembers u2).bind (fun u3 => z_let (u3 1 5) (fun z4 => z_let (z_up u3 1 5 a1) (fun u5 => some (z4, u5))))) else (some ((0 : Int32), u2)))) else (z_let (z_up u 0 0 (1 : Int32)) (fun u6 => if (u6 0 0) ≤ 0 then ((f_X11_remembers u6).bind (fun u7 => z_let (u7 1 5) (fun z8 => z_let (z_up u7 1 5 a1) (fun u9 => some (z8, u9))))) else (some ((0 : Int32), u6)))))
theorem f_X11_fare_e (a1 : Int32) (u : zU) : f_X11_fare a1 u = z_let (f_X11_isIn a1 (0 : Int32) (99 : Int32) u) (fun t1 => if t1 = true then (z_let (z_up u 0 0 (0 : Int32)) (fun u2 => if (u2 0 0) ≤ 0 then ((f_X11_remembers u2).bind (fun u3 => z_let (u3 1 5) (fun z4 => z_let (z_up u3 1 5 a1) (fun u5 => some (z4, u5))))) else (some ((0 : Int32), u2)))) else (z_let (z_up u 0 0 (1 : Int32)) (fun u6 => if (u6 0 0) ≤ 0 then ((f_X11_remembers u6).bind (fun u7 => z_let (u7 1 5) (fun z8 => z_let (z_up u7 1 5 a1) (fun u9 => some (z8, u9))))) else (some ((0 : Int32), u6))))) := rfl
set_option maxRecDepth 100000 in
set_option maxHeartbeats 4000000 in
theorem c_X11_fare (l : Launch) (D : zD) (A : Nat → Prop) (b : Nat) (a1 : Int32) (u : zU) {v : Int32} {u' : zU} (h : f_X11_fare a1 u = some (v, u')) : z_M l D A b gM yX11_fare cX11_fare 3 (some .int) 1 22 [.ref (b + 0), .int a1] u (some (.int v)) u' := by
  refine z_enter (by decide) (Nat.le_of_ble_eq_true rfl) ?_
  intro p e s m below meth c ls C0 hr hml hlk hW hS hl
  have hl : lv_has ls 3 [(0, .ref (b + 0)), (1, .int a1)] := hl
  have hx := C0.1
  have hb := C0.2.1
  rw [f_X11_fare_e] at h
  refine lv_aload_n hx hb dX11_fare_0 rfl (lv_at hl 0 rfl) ?_
  refine lv_iload_n hx hb dX11_fare_1 rfl (lv_at hl 1 rfl) ?_
  refine lv_iconst (v := (0 : Int32)) hx hb dX11_fare_2 (by decide) ?_
  refine lv_bipush (v := (99 : Int32)) hx hb dX11_fare_3 (by decide) ?_
  obtain ⟨t1, hq⟩ : ∃ y, f_X11_isIn a1 (0 : Int32) (99 : Int32) u = y := ⟨_, rfl⟩
  replace h := z_lz h hq
  refine z_csi (As := [.int a1, .int (0 : Int32), .int (99 : Int32)]) C0 hml hl.1 hW hS (c_X11_isIn l D A b a1 (0 : Int32) (99 : Int32) u hq) ms_X11_45 ⟨Nat.le_of_ble_eq_true rfl, Nat.le_of_ble_eq_true rfl⟩ rfl rfl (Nat.le_of_ble_eq_true rfl) dX11_fare_5 (fun H locs hW hS => ?_)
  clear hq
  refine z_ifneZ C0 (tgt := 15) dX11_fare_8 (by decide) (fun hc => ?_) (fun hc => ?_)
  · replace h := z_t h hc
    clear hc
    refine lv_iconst (v := (0 : Int32)) hx hb dX11_fare_15 (by decide) ?_
    refine z_puti C0 hW hS fl_X11_42 rfl rfl rfl rfl dX11_fare_16 (fun H locs u2 e1 hW hS => ?_)
    replace h := z_ly h e1
    clear e1
    refine lv_aload_n hx hb dX11_fare_19 rfl (lv_at hl 0 rfl) ?_
    refine z_geti C0 hW fl_X11_42 rfl rfl dX11_fare_20 ?_
    refine lv_if_le (tgt := 28) hx hb dX11_fare_23 (by decide) (fun hc => ?_) (fun hc => ?_)
    · replace h := z_t h hc
      clear hc
      refine lv_aload_n hx hb dX11_fare_28 rfl (lv_at hl 0 rfl) ?_
      replace h := z_bd h
      obtain ⟨u3, hq, h⟩ := h
      refine z_cvv (As := []) C0 hml hl.1 hW hS (c_X11_remembers l D A b u2 hq) mv_X11_318 rfl ⟨Nat.le_of_ble_eq_true rfl, Nat.le_of_ble_eq_true rfl⟩ rfl rfl (Nat.le_of_ble_eq_true rfl) dX11_fare_29 (fun H locs hW hS => ?_)
      clear hq
      refine lv_aload_n hx hb dX11_fare_32 rfl (lv_at hl 0 rfl) ?_
      refine z_getr (o := 1) C0 hW fl_X11_7 rfl rfl rfl dX11_fare_33 ?_
      refine lv_iconst (v := (5 : Int32)) hx hb dX11_fare_36 (by decide) ?_
      refine z_iald (k := 5) (n := 705) C0 hW rfl rfl (by decide) (by decide) dX11_fare_37 ?_
      refine lv_topi (fun z4 e1 => ?_)
      replace h := z_ly h e1
      clear e1
      refine lv_istore_n (lv' := [(2, .int z4), (0, .ref (b + 0)), (1, .int a1)]) hx hb dX11_fare_38 rfl hl (by decide) rfl (fun ls hl => ?_)
      refine lv_aload_n hx hb dX11_fare_39 rfl (lv_at hl 1 rfl) ?_
      refine z_getr (o := 1) C0 hW fl_X11_7 rfl rfl rfl dX11_fare_40 ?_
      refine lv_iconst (v := (5 : Int32)) hx hb dX11_fare_43 (by decide) ?_
      refine lv_iload_n hx hb dX11_fare_44 rfl (lv_at hl 2 rfl) ?_
      refine z_iast (k := 5) (n := 705) C0 hW hS rfl rfl (by decide) (by decide) dX11_fare_45 (fun H locs u5 e1 hW hS => ?_)
      replace h := z_ly h e1
      clear e1
      refine lv_iload_n hx hb dX11_fare_46 rfl (lv_at hl 0 rfl) ?_
      cases h
      exact z_iret C0 hr hlk hW hS dX11_fare_47
    · replace h := z_f h hc
      clear hc
      refine lv_iconst (v := (0 : Int32)) hx hb dX11_fare_26 (by decide) ?_
      cases h
      exact z_iret C0 hr hlk hW hS dX11_fare_27
  · replace h := z_ff h hc
    clear hc
    refine lv_iconst (v := (1 : Int32)) hx hb dX11_fare_11 (by decide) ?_
    refine lv_goto (tgt := 16) hx hb dX11_fare_12 (by decide) ?_
    refine z_puti C0 hW hS fl_X11_42 rfl rfl rfl rfl dX11_fare_16 (fun H locs u6 e1 hW hS => ?_)
    replace h := z_ly h e1
    clear e1
    refine lv_aload_n hx hb dX11_fare_19 rfl (lv_at hl 0 rfl) ?_
    refine z_geti C0 hW fl_X11_42 rfl rfl dX11_fare_20 ?_
    refine lv_if_le (tgt := 28) hx hb dX11_fare_23 (by decide) (fun hc => ?_) (fun hc => ?_)
    · replace h := z_t h hc
      clear hc
      refine lv_aload_n hx hb dX11_fare_28 rfl (lv_at hl 0 rfl) ?_
      replace h := z_bd h
      obtain ⟨u7, hq, h⟩ := h
      refine z_cvv (As := []) C0 hml hl.1 hW hS (c_X11_remembers l D A b u6 hq) mv_X11_318 rfl ⟨Nat.le_of_ble_eq_true rfl, Nat.le_of_ble_eq_true rfl⟩ rfl rfl (Nat.le_of_ble_eq_true rfl) dX11_fare_29 (fun H locs hW hS => ?_)
      clear hq
      refine lv_aload_n hx hb dX11_fare_32 rfl (lv_at hl 0 rfl) ?_
      refine z_getr (o := 1) C0 hW fl_X11_7 rfl rfl rfl dX11_fare_33 ?_
      refine lv_iconst (v := (5 : Int32)) hx hb dX11_fare_36 (by decide) ?_
      refine z_iald (k := 5) (n := 705) C0 hW rfl rfl (by decide) (by decide) dX11_fare_37 ?_
      refine lv_topi (fun z8 e1 => ?_)
      replace h := z_ly h e1
      clear e1
      refine lv_istore_n (lv' := [(2, .int z8), (0, .ref (b + 0)), (1, .int a1)]) hx hb dX11_fare_38 rfl hl (by decide) rfl (fun ls hl => ?_)
      refine lv_aload_n hx hb dX11_fare_39 rfl (lv_at hl 1 rfl) ?_
      refine z_getr (o := 1) C0 hW fl_X11_7 rfl rfl rfl dX11_fare_40 ?_
      refine lv_iconst (v := (5 : Int32)) hx hb dX11_fare_43 (by decide) ?_
      refine lv_iload_n hx hb dX11_fare_44 rfl (lv_at hl 2 rfl) ?_
      refine z_iast (k := 5) (n := 705) C0 hW hS rfl rfl (by decide) (by decide) dX11_fare_45 (fun H locs u9 e1 hW hS => ?_)
      replace h := z_ly h e1
      clear e1
      refine lv_iload_n hx hb dX11_fare_46 rfl (lv_at hl 0 rfl) ?_
      cases h
      exact z_iret C0 hr hlk hW hS dX11_fare_47
    · replace h := z_f h hc
      clear hc
      refine lv_iconst (v := (0 : Int32)) hx hb dX11_fare_26 (by decide) ?_
      cases h
      exact z_iret C0 hr hlk hW hS dX11_fare_27
def f_X11_bribe (a1 : Int32) (u : zU) : Option (Int32 × zU) :=
  z_let (f_X11_isIn a1 (1 : Int32) (7 : Int32) u) (fun t1 => if t1 = true then (if ((10 : Int32) * a1) ≤ (u 1 6) then (z_let (z_up u 0 0 (0 : Int32)) (fun u2 => if (u2 0 0) ≤ 0 then ((f_X11_remembers u2).bind (fun u3 => z_let (z_up u3 1 6 ((u3 1 6) - ((10 : Int32) * a1))) (fun u4 => z_let (z_up u4 1 4 (z_rem ((u4 1 4) + a1) (8 : Int32))) (fun u5 => some (u5 1 4, u5))))) else (some ((0 : Int32), u2)))) else (z_let (z_up u 0 0 (2 : Int32)) (fun u6 => if (u6 0 0) ≤ 0 then ((f_X11_remembers u6).bind (fun u7 => z_let (z_up u7 1 6 ((u7 1 6) - ((10 : Int32) * a1))) (fun u8 => z_let (z_up u8 1 4 (z_rem ((u8 1 4) + a1) (8 : Int32))) (fun u9 => some (u9 1 4, u9))))) else (some ((0 : Int32), u6))))) else (z_let (z_up u 0 0 (1 : Int32)) (fun u10 => if (u10 0 0) ≤ 0 then ((f_X11_remembers u10).bind (fun u11 => z_let (z_up u11 1 6 ((u11 1 6) - ((10 : Int32) * a1))) (fun u12 => z_let (z_up u12 1 4 (z_rem ((u12 1 4) + a1) (8 : Int32))) (fun u13 => some (u13 1 4, u13))))) else (some ((0 : Int32), u10)))))
theorem f_X11_bribe_e (a1 : Int32) (u : zU) : f_X11_bribe a1 u = z_let (f_X11_isIn a1 (1 : Int32) (7 : Int32) u) (fun t1 => if t1 = true then (if ((10 : Int32) * a1) ≤ (u 1 6) then (z_let (z_up u 0 0 (0 : Int32)) (fun u2 => if (u2 0 0) ≤ 0 then ((f_X11_remembers u2).bind (fun u3 => z_let (z_up u3 1 6 ((u3 1 6) - ((10 : Int32) * a1))) (fun u4 => z_let (z_up u4 1 4 (z_rem ((u4 1 4) + a1) (8 : Int32))) (fun u5 => some (u5 1 4, u5))))) else (some ((0 : Int32), u2)))) else (z_let (z_up u 0 0 (2 : Int32)) (fun u6 => if (u6 0 0) ≤ 0 then ((f_X11_remembers u6).bind (fun u7 => z_let (z_up u7 1 6 ((u7 1 6) - ((10 : Int32) * a1))) (fun u8 => z_let (z_up u8 1 4 (z_rem ((u8 1 4) + a1) (8 : Int32))) (fun u9 => some (u9 1 4, u9))))) else (some ((0 : Int32), u6))))) else (z_let (z_up u 0 0 (1 : Int32)) (fun u10 => if (u10 0 0) ≤ 0 then ((f_X11_remembers u10).bind (fun u11 => z_let (z_up u11 1 6 ((u11 1 6) - ((10 : Int32) * a1))) (fun u12 => z_let (z_up u12 1 4 (z_rem ((u12 1 4) + a1) (8 : Int32))) (fun u13 => some (u13 1 4, u13))))) else (some ((0 : Int32), u10))))) := rfl
set_option maxRecDepth 100000 in
set_option maxHeartbeats 4000000 in
theorem c_X11_bribe (l : Launch) (D : zD) (A : Nat → Prop) (b : Nat) (a1 : Int32) (u : zU) {v : Int32} {u' : zU} (h : f_X11_bribe a1 u = some (v, u')) : z_M l D A b gM yX11_bribe cX11_bribe 2 (some .int) 1 22 [.ref (b + 0), .int a1] u (some (.int v)) u' := by
  refine z_enter (by decide) (Nat.le_of_ble_eq_true rfl) ?_
  intro p e s m below meth c ls C0 hr hml hlk hW hS hl
  have hl : lv_has ls 2 [(0, .ref (b + 0)), (1, .int a1)] := hl
  have hx := C0.1
  have hb := C0.2.1
  rw [f_X11_bribe_e] at h
  refine lv_aload_n hx hb dX11_bribe_0 rfl (lv_at hl 0 rfl) ?_
  refine lv_iload_n hx hb dX11_bribe_1 rfl (lv_at hl 1 rfl) ?_
  refine lv_iconst (v := (1 : Int32)) hx hb dX11_bribe_2 (by decide) ?_
  refine lv_bipush (v := (7 : Int32)) hx hb dX11_bribe_3 (by decide) ?_
  obtain ⟨t1, hq⟩ : ∃ y, f_X11_isIn a1 (1 : Int32) (7 : Int32) u = y := ⟨_, rfl⟩
  replace h := z_lz h hq
  refine z_csi (As := [.int a1, .int (1 : Int32), .int (7 : Int32)]) C0 hml hl.1 hW hS (c_X11_isIn l D A b a1 (1 : Int32) (7 : Int32) u hq) ms_X11_45 ⟨Nat.le_of_ble_eq_true rfl, Nat.le_of_ble_eq_true rfl⟩ rfl rfl (Nat.le_of_ble_eq_true rfl) dX11_bribe_5 (fun H locs hW hS => ?_)
  clear hq
  refine z_ifneZ C0 (tgt := 15) dX11_bribe_8 (by decide) (fun hc => ?_) (fun hc => ?_)
  · replace h := z_t h hc
    clear hc
    refine lv_aload_n hx hb dX11_bribe_15 rfl (lv_at hl 0 rfl) ?_
    refine z_getr (o := 1) C0 hW fl_X11_7 rfl rfl rfl dX11_bribe_16 ?_
    refine lv_bipush (v := (6 : Int32)) hx hb dX11_bribe_19 (by decide) ?_
    refine z_iald (k := 6) (n := 705) C0 hW rfl rfl (by decide) (by decide) dX11_bribe_21 ?_
    refine lv_bipush (v := (10 : Int32)) hx hb dX11_bribe_22 (by decide) ?_
    refine lv_iload_n hx hb dX11_bribe_24 rfl (lv_at hl 1 rfl) ?_
    refine lv_imul hx hb dX11_bribe_25 ?_
    refine lv_icmp_ge (tgt := 33) hx hb dX11_bribe_26 (by decide) (fun hc => ?_) (fun hc => ?_)
    · replace h := z_t h hc
      clear hc
      refine lv_iconst (v := (0 : Int32)) hx hb dX11_bribe_33 (by decide) ?_
      refine z_puti C0 hW hS fl_X11_42 rfl rfl rfl rfl dX11_bribe_34 (fun H locs u2 e1 hW hS => ?_)
      replace h := z_ly h e1
      clear e1
      refine lv_aload_n hx hb dX11_bribe_37 rfl (lv_at hl 0 rfl) ?_
      refine z_geti C0 hW fl_X11_42 rfl rfl dX11_bribe_38 ?_
      refine lv_if_le (tgt := 46) hx hb dX11_bribe_41 (by decide) (fun hc => ?_) (fun hc => ?_)
      · replace h := z_t h hc
        clear hc
        refine lv_aload_n hx hb dX11_bribe_46 rfl (lv_at hl 0 rfl) ?_
        replace h := z_bd h
        obtain ⟨u3, hq, h⟩ := h
        refine z_cvv (As := []) C0 hml hl.1 hW hS (c_X11_remembers l D A b u2 hq) mv_X11_318 rfl ⟨Nat.le_of_ble_eq_true rfl, Nat.le_of_ble_eq_true rfl⟩ rfl rfl (Nat.le_of_ble_eq_true rfl) dX11_bribe_47 (fun H locs hW hS => ?_)
        clear hq
        refine lv_aload_n hx hb dX11_bribe_50 rfl (lv_at hl 0 rfl) ?_
        refine z_getr (o := 1) C0 hW fl_X11_7 rfl rfl rfl dX11_bribe_51 ?_
        refine lv_bipush (v := (6 : Int32)) hx hb dX11_bribe_54 (by decide) ?_
        refine lv_dup2_11 hx hb dX11_bribe_56 rfl rfl ?_
        refine z_iald (k := 6) (n := 705) C0 hW rfl rfl (by decide) (by decide) dX11_bribe_57 ?_
        refine lv_bipush (v := (10 : Int32)) hx hb dX11_bribe_58 (by decide) ?_
        refine lv_iload_n hx hb dX11_bribe_60 rfl (lv_at hl 1 rfl) ?_
        refine lv_imul hx hb dX11_bribe_61 ?_
        refine lv_isub hx hb dX11_bribe_62 ?_
        refine z_iast (k := 6) (n := 705) C0 hW hS rfl rfl (by decide) (by decide) dX11_bribe_63 (fun H locs u4 e1 hW hS => ?_)
        replace h := z_ly h e1
        clear e1
        refine lv_aload_n hx hb dX11_bribe_64 rfl (lv_at hl 0 rfl) ?_
        refine z_getr (o := 1) C0 hW fl_X11_7 rfl rfl rfl dX11_bribe_65 ?_
        refine lv_iconst (v := (4 : Int32)) hx hb dX11_bribe_68 (by decide) ?_
        refine lv_aload_n hx hb dX11_bribe_69 rfl (lv_at hl 0 rfl) ?_
        refine z_getr (o := 1) C0 hW fl_X11_7 rfl rfl rfl dX11_bribe_70 ?_
        refine lv_iconst (v := (4 : Int32)) hx hb dX11_bribe_73 (by decide) ?_
        refine z_iald (k := 4) (n := 705) C0 hW rfl rfl (by decide) (by decide) dX11_bribe_74 ?_
        refine lv_iload_n hx hb dX11_bribe_75 rfl (lv_at hl 1 rfl) ?_
        refine lv_iadd hx hb dX11_bribe_76 ?_
        refine lv_bipush (v := (8 : Int32)) hx hb dX11_bribe_77 (by decide) ?_
        refine lv_irem hx hb dX11_bribe_79 (by decide) ?_
        refine z_iast (k := 4) (n := 705) C0 hW hS rfl rfl (by decide) (by decide) dX11_bribe_80 (fun H locs u5 e1 hW hS => ?_)
        replace h := z_ly h e1
        clear e1
        refine lv_aload_n hx hb dX11_bribe_81 rfl (lv_at hl 0 rfl) ?_
        refine z_getr (o := 1) C0 hW fl_X11_7 rfl rfl rfl dX11_bribe_82 ?_
        refine lv_iconst (v := (4 : Int32)) hx hb dX11_bribe_85 (by decide) ?_
        refine z_iald (k := 4) (n := 705) C0 hW rfl rfl (by decide) (by decide) dX11_bribe_86 ?_
        cases h
        exact z_iret C0 hr hlk hW hS dX11_bribe_87
      · replace h := z_f h hc
        clear hc
        refine lv_iconst (v := (0 : Int32)) hx hb dX11_bribe_44 (by decide) ?_
        cases h
        exact z_iret C0 hr hlk hW hS dX11_bribe_45
    · replace h := z_f h hc
      clear hc
      refine lv_iconst (v := (2 : Int32)) hx hb dX11_bribe_29 (by decide) ?_
      refine lv_goto (tgt := 34) hx hb dX11_bribe_30 (by decide) ?_
      refine z_puti C0 hW hS fl_X11_42 rfl rfl rfl rfl dX11_bribe_34 (fun H locs u6 e1 hW hS => ?_)
      replace h := z_ly h e1
      clear e1
      refine lv_aload_n hx hb dX11_bribe_37 rfl (lv_at hl 0 rfl) ?_
      refine z_geti C0 hW fl_X11_42 rfl rfl dX11_bribe_38 ?_
      refine lv_if_le (tgt := 46) hx hb dX11_bribe_41 (by decide) (fun hc => ?_) (fun hc => ?_)
      · replace h := z_t h hc
        clear hc
        refine lv_aload_n hx hb dX11_bribe_46 rfl (lv_at hl 0 rfl) ?_
        replace h := z_bd h
        obtain ⟨u7, hq, h⟩ := h
        refine z_cvv (As := []) C0 hml hl.1 hW hS (c_X11_remembers l D A b u6 hq) mv_X11_318 rfl ⟨Nat.le_of_ble_eq_true rfl, Nat.le_of_ble_eq_true rfl⟩ rfl rfl (Nat.le_of_ble_eq_true rfl) dX11_bribe_47 (fun H locs hW hS => ?_)
        clear hq
        refine lv_aload_n hx hb dX11_bribe_50 rfl (lv_at hl 0 rfl) ?_
        refine z_getr (o := 1) C0 hW fl_X11_7 rfl rfl rfl dX11_bribe_51 ?_
        refine lv_bipush (v := (6 : Int32)) hx hb dX11_bribe_54 (by decide) ?_
        refine lv_dup2_11 hx hb dX11_bribe_56 rfl rfl ?_
        refine z_iald (k := 6) (n := 705) C0 hW rfl rfl (by decide) (by decide) dX11_bribe_57 ?_
        refine lv_bipush (v := (10 : Int32)) hx hb dX11_bribe_58 (by decide) ?_
        refine lv_iload_n hx hb dX11_bribe_60 rfl (lv_at hl 1 rfl) ?_
        refine lv_imul hx hb dX11_bribe_61 ?_
        refine lv_isub hx hb dX11_bribe_62 ?_
        refine z_iast (k := 6) (n := 705) C0 hW hS rfl rfl (by decide) (by decide) dX11_bribe_63 (fun H locs u8 e1 hW hS => ?_)
        replace h := z_ly h e1
        clear e1
        refine lv_aload_n hx hb dX11_bribe_64 rfl (lv_at hl 0 rfl) ?_
        refine z_getr (o := 1) C0 hW fl_X11_7 rfl rfl rfl dX11_bribe_65 ?_
        refine lv_iconst (v := (4 : Int32)) hx hb dX11_bribe_68 (by decide) ?_
        refine lv_aload_n hx hb dX11_bribe_69 rfl (lv_at hl 0 rfl) ?_
        refine z_getr (o := 1) C0 hW fl_X11_7 rfl rfl rfl dX11_bribe_70 ?_
        refine lv_iconst (v := (4 : Int32)) hx hb dX11_bribe_73 (by decide) ?_
        refine z_iald (k := 4) (n := 705) C0 hW rfl rfl (by decide) (by decide) dX11_bribe_74 ?_
        refine lv_iload_n hx hb dX11_bribe_75 rfl (lv_at hl 1 rfl) ?_
        refine lv_iadd hx hb dX11_bribe_76 ?_
        refine lv_bipush (v := (8 : Int32)) hx hb dX11_bribe_77 (by decide) ?_
        refine lv_irem hx hb dX11_bribe_79 (by decide) ?_
        refine z_iast (k := 4) (n := 705) C0 hW hS rfl rfl (by decide) (by decide) dX11_bribe_80 (fun H locs u9 e1 hW hS => ?_)
        replace h := z_ly h e1
        clear e1
        refine lv_aload_n hx hb dX11_bribe_81 rfl (lv_at hl 0 rfl) ?_
        refine z_getr (o := 1) C0 hW fl_X11_7 rfl rfl rfl dX11_bribe_82 ?_
        refine lv_iconst (v := (4 : Int32)) hx hb dX11_bribe_85 (by decide) ?_
        refine z_iald (k := 4) (n := 705) C0 hW rfl rfl (by decide) (by decide) dX11_bribe_86 ?_
        cases h
        exact z_iret C0 hr hlk hW hS dX11_bribe_87
      · replace h := z_f h hc
        clear hc
        refine lv_iconst (v := (0 : Int32)) hx hb dX11_bribe_44 (by decide) ?_
        cases h
        exact z_iret C0 hr hlk hW hS dX11_bribe_45
  · replace h := z_ff h hc
    clear hc
    refine lv_iconst (v := (1 : Int32)) hx hb dX11_bribe_11 (by decide) ?_
    refine lv_goto (tgt := 34) hx hb dX11_bribe_12 (by decide) ?_
    refine z_puti C0 hW hS fl_X11_42 rfl rfl rfl rfl dX11_bribe_34 (fun H locs u10 e1 hW hS => ?_)
    replace h := z_ly h e1
    clear e1
    refine lv_aload_n hx hb dX11_bribe_37 rfl (lv_at hl 0 rfl) ?_
    refine z_geti C0 hW fl_X11_42 rfl rfl dX11_bribe_38 ?_
    refine lv_if_le (tgt := 46) hx hb dX11_bribe_41 (by decide) (fun hc => ?_) (fun hc => ?_)
    · replace h := z_t h hc
      clear hc
      refine lv_aload_n hx hb dX11_bribe_46 rfl (lv_at hl 0 rfl) ?_
      replace h := z_bd h
      obtain ⟨u11, hq, h⟩ := h
      refine z_cvv (As := []) C0 hml hl.1 hW hS (c_X11_remembers l D A b u10 hq) mv_X11_318 rfl ⟨Nat.le_of_ble_eq_true rfl, Nat.le_of_ble_eq_true rfl⟩ rfl rfl (Nat.le_of_ble_eq_true rfl) dX11_bribe_47 (fun H locs hW hS => ?_)
      clear hq
      refine lv_aload_n hx hb dX11_bribe_50 rfl (lv_at hl 0 rfl) ?_
      refine z_getr (o := 1) C0 hW fl_X11_7 rfl rfl rfl dX11_bribe_51 ?_
      refine lv_bipush (v := (6 : Int32)) hx hb dX11_bribe_54 (by decide) ?_
      refine lv_dup2_11 hx hb dX11_bribe_56 rfl rfl ?_
      refine z_iald (k := 6) (n := 705) C0 hW rfl rfl (by decide) (by decide) dX11_bribe_57 ?_
      refine lv_bipush (v := (10 : Int32)) hx hb dX11_bribe_58 (by decide) ?_
      refine lv_iload_n hx hb dX11_bribe_60 rfl (lv_at hl 1 rfl) ?_
      refine lv_imul hx hb dX11_bribe_61 ?_
      refine lv_isub hx hb dX11_bribe_62 ?_
      refine z_iast (k := 6) (n := 705) C0 hW hS rfl rfl (by decide) (by decide) dX11_bribe_63 (fun H locs u12 e1 hW hS => ?_)
      replace h := z_ly h e1
      clear e1
      refine lv_aload_n hx hb dX11_bribe_64 rfl (lv_at hl 0 rfl) ?_
      refine z_getr (o := 1) C0 hW fl_X11_7 rfl rfl rfl dX11_bribe_65 ?_
      refine lv_iconst (v := (4 : Int32)) hx hb dX11_bribe_68 (by decide) ?_
      refine lv_aload_n hx hb dX11_bribe_69 rfl (lv_at hl 0 rfl) ?_
      refine z_getr (o := 1) C0 hW fl_X11_7 rfl rfl rfl dX11_bribe_70 ?_
      refine lv_iconst (v := (4 : Int32)) hx hb dX11_bribe_73 (by decide) ?_
      refine z_iald (k := 4) (n := 705) C0 hW rfl rfl (by decide) (by decide) dX11_bribe_74 ?_
      refine lv_iload_n hx hb dX11_bribe_75 rfl (lv_at hl 1 rfl) ?_
      refine lv_iadd hx hb dX11_bribe_76 ?_
      refine lv_bipush (v := (8 : Int32)) hx hb dX11_bribe_77 (by decide) ?_
      refine lv_irem hx hb dX11_bribe_79 (by decide) ?_
      refine z_iast (k := 4) (n := 705) C0 hW hS rfl rfl (by decide) (by decide) dX11_bribe_80 (fun H locs u13 e1 hW hS => ?_)
      replace h := z_ly h e1
      clear e1
      refine lv_aload_n hx hb dX11_bribe_81 rfl (lv_at hl 0 rfl) ?_
      refine z_getr (o := 1) C0 hW fl_X11_7 rfl rfl rfl dX11_bribe_82 ?_
      refine lv_iconst (v := (4 : Int32)) hx hb dX11_bribe_85 (by decide) ?_
      refine z_iald (k := 4) (n := 705) C0 hW rfl rfl (by decide) (by decide) dX11_bribe_86 ?_
      cases h
      exact z_iret C0 hr hlk hW hS dX11_bribe_87
    · replace h := z_f h hc
      clear hc
      refine lv_iconst (v := (0 : Int32)) hx hb dX11_bribe_44 (by decide) ?_
      cases h
      exact z_iret C0 hr hlk hW hS dX11_bribe_45
def f_X11_counts_141 (K : Int32 → Int32 → Int32 → zU → Option (Int32 × zU)) : Nat → Int32 → Int32 → Int32 → Int32 → zU → Option (Int32 × zU)
  | 0, _, _, _, _, _ => none
  | n + 1, x1, x2, x3, x4, u =>
    if (8 : Int32) ≤ x4 then (K x1 x2 (x3 + (1 : Int32)) u) else (if z_in x4 8 = true then (z_let (u 8 (x4).toNatClampNeg) (fun z2 => if z_in x4 8 = true then (z_let (z_up u 7 (x4).toNatClampNeg z2) (fun u3 => f_X11_counts_141 K n x1 x2 x3 (x4 + (1 : Int32)) u3)) else none)) else none)
theorem f_X11_counts_141_s (K : Int32 → Int32 → Int32 → zU → Option (Int32 × zU)) (n : Nat) (x1 : Int32) (x2 : Int32) (x3 : Int32) (x4 : Int32) (u : zU) : f_X11_counts_141 K (n + 1) x1 x2 x3 x4 u = if (8 : Int32) ≤ x4 then (K x1 x2 (x3 + (1 : Int32)) u) else (if z_in x4 8 = true then (z_let (u 8 (x4).toNatClampNeg) (fun z2 => if z_in x4 8 = true then (z_let (z_up u 7 (x4).toNatClampNeg z2) (fun u3 => f_X11_counts_141 K n x1 x2 x3 (x4 + (1 : Int32)) u3)) else none)) else none) := rfl
def f_X11_counts_91 (K : Int32 → Int32 → Int32 → Int32 → zU → Option (Int32 × zU)) : Nat → Int32 → Int32 → Int32 → Int32 → Int32 → zU → Option (Int32 × zU)
  | 0, _, _, _, _, _, _ => none
  | n + 1, x1, x2, x3, x4, x5, u =>
    if (u 1 7) < x5 then (K x1 x2 x3 (x4 + (1 : Int32)) u) else (z_let (z_rem (x4 + x5) (8 : Int32)) (fun z4 => if z_in z4 8 = true then (z_let (u 8 (z4).toNatClampNeg) (fun z5 => if z_in x4 8 = true then (z_let (u 7 (x4).toNatClampNeg) (fun z6 => if z_in z4 8 = true then (z_let (z_up u 8 (z4).toNatClampNeg (z5 + z6)) (fun u7 => f_X11_counts_91 K n x1 x2 x3 x4 (x5 + (1 : Int32)) u7)) else none)) else none)) else none))
theorem f_X11_counts_91_s (K : Int32 → Int32 → Int32 → Int32 → zU → Option (Int32 × zU)) (n : Nat) (x1 : Int32) (x2 : Int32) (x3 : Int32) (x4 : Int32) (x5 : Int32) (u : zU) : f_X11_counts_91 K (n + 1) x1 x2 x3 x4 x5 u = if (u 1 7) < x5 then (K x1 x2 x3 (x4 + (1 : Int32)) u) else (z_let (z_rem (x4 + x5) (8 : Int32)) (fun z4 => if z_in z4 8 = true then (z_let (u 8 (z4).toNatClampNeg) (fun z5 => if z_in x4 8 = true then (z_let (u 7 (x4).toNatClampNeg) (fun z6 => if z_in z4 8 = true then (z_let (z_up u 8 (z4).toNatClampNeg (z5 + z6)) (fun u7 => f_X11_counts_91 K n x1 x2 x3 x4 (x5 + (1 : Int32)) u7)) else none)) else none)) else none)) := rfl
def f_X11_counts_81 (K : Int32 → Int32 → Int32 → zU → Option (Int32 × zU)) : Nat → Int32 → Int32 → Int32 → Int32 → zU → Option (Int32 × zU)
  | 0, _, _, _, _, _ => none
  | n + 1, x1, x2, x3, x4, u =>
    if (8 : Int32) ≤ x4 then (f_X11_counts_141 K 5000 x1 x2 x3 (0 : Int32) u) else (f_X11_counts_91 (fun k1 k2 k3 k4 u => f_X11_counts_81 K n k1 k2 k3 k4 u) 5000 x1 x2 x3 x4 (1 : Int32) u)
theorem f_X11_counts_81_s (K : Int32 → Int32 → Int32 → zU → Option (Int32 × zU)) (n : Nat) (x1 : Int32) (x2 : Int32) (x3 : Int32) (x4 : Int32) (u : zU) : f_X11_counts_81 K (n + 1) x1 x2 x3 x4 u = if (8 : Int32) ≤ x4 then (f_X11_counts_141 K 5000 x1 x2 x3 (0 : Int32) u) else (f_X11_counts_91 (fun k1 k2 k3 k4 u => f_X11_counts_81 K n k1 k2 k3 k4 u) 5000 x1 x2 x3 x4 (1 : Int32) u) := rfl
def f_X11_counts_57 (K : Int32 → Int32 → Int32 → zU → Option (Int32 × zU)) : Nat → Int32 → Int32 → Int32 → Int32 → zU → Option (Int32 × zU)
  | 0, _, _, _, _, _ => none
  | n + 1, x1, x2, x3, x4, u =>
    if (8 : Int32) ≤ x4 then (f_X11_counts_81 K 5000 x1 x2 x3 (0 : Int32) u) else (if z_in x4 8 = true then (z_let (z_up u 8 (x4).toNatClampNeg (0 : Int32)) (fun u8 => f_X11_counts_57 K n x1 x2 x3 (x4 + (1 : Int32)) u8)) else none)
theorem f_X11_counts_57_s (K : Int32 → Int32 → Int32 → zU → Option (Int32 × zU)) (n : Nat) (x1 : Int32) (x2 : Int32) (x3 : Int32) (x4 : Int32) (u : zU) : f_X11_counts_57 K (n + 1) x1 x2 x3 x4 u = if (8 : Int32) ≤ x4 then (f_X11_counts_81 K 5000 x1 x2 x3 (0 : Int32) u) else (if z_in x4 8 = true then (z_let (z_up u 8 (x4).toNatClampNeg (0 : Int32)) (fun u8 => f_X11_counts_57 K n x1 x2 x3 (x4 + (1 : Int32)) u8)) else none) := rfl
def f_X11_counts_39 : Nat → Int32 → Int32 → Int32 → zU → Option (Int32 × zU)
  | 0, _, _, _, _ => none
  | n + 1, x1, x2, x3, u =>
    if x1 ≤ x3 then (some (x2, u)) else (z_let (x2 * (u 1 7)) (fun z1 => f_X11_counts_57 (fun k1 k2 k3 u => f_X11_counts_39 n k1 k2 k3 u) 5000 x1 z1 x3 (0 : Int32) u))
theorem f_X11_counts_39_s (n : Nat) (x1 : Int32) (x2 : Int32) (x3 : Int32) (u : zU) : f_X11_counts_39 (n + 1) x1 x2 x3 u = if x1 ≤ x3 then (some (x2, u)) else (z_let (x2 * (u 1 7)) (fun z1 => f_X11_counts_57 (fun k1 k2 k3 u => f_X11_counts_39 n k1 k2 k3 u) 5000 x1 z1 x3 (0 : Int32) u)) := rfl
def f_X11_counts_4 : Nat → Int32 → Int32 → Int32 → zU → Option (Int32 × zU)
  | 0, _, _, _, _ => none
  | n + 1, x1, x2, x3, u =>
    if (8 : Int32) ≤ x3 then (f_X11_counts_39 5000 x1 x2 (0 : Int32) u) else (if x3 = (u 1 4) then (if z_in x3 8 = true then (z_let (z_up u 7 (x3).toNatClampNeg (1 : Int32)) (fun u10 => f_X11_counts_4 n x1 x2 (x3 + (1 : Int32)) u10)) else none) else (if z_in x3 8 = true then (z_let (z_up u 7 (x3).toNatClampNeg (0 : Int32)) (fun u9 => f_X11_counts_4 n x1 x2 (x3 + (1 : Int32)) u9)) else none))
theorem f_X11_counts_4_s (n : Nat) (x1 : Int32) (x2 : Int32) (x3 : Int32) (u : zU) : f_X11_counts_4 (n + 1) x1 x2 x3 u = if (8 : Int32) ≤ x3 then (f_X11_counts_39 5000 x1 x2 (0 : Int32) u) else (if x3 = (u 1 4) then (if z_in x3 8 = true then (z_let (z_up u 7 (x3).toNatClampNeg (1 : Int32)) (fun u10 => f_X11_counts_4 n x1 x2 (x3 + (1 : Int32)) u10)) else none) else (if z_in x3 8 = true then (z_let (z_up u 7 (x3).toNatClampNeg (0 : Int32)) (fun u9 => f_X11_counts_4 n x1 x2 (x3 + (1 : Int32)) u9)) else none)) := rfl
def f_X11_counts (a1 : Int32) (u : zU) : Option (Int32 × zU) :=
  f_X11_counts_4 5000 a1 (1 : Int32) (0 : Int32) u
set_option maxRecDepth 100000 in
set_option maxHeartbeats 4000000 in
theorem l_X11_counts_141 {l : Launch} {D : zD} {A : Nat → Prop} {b : Nat} {p : Program} {e : Env} {s : State} {m : MethodId} {args : Array Value} {below : List Frame} {meth : Method} {c : Code} {v : Int32} {u' : zU} {K : Int32 → Int32 → Int32 → zU → Option (Int32 × zU)} (C0 : z_C p c cX11_counts s m args yX11_counts.cls D A) (hr : meth.sig.returnType = (some .int)) (hml : c.maxLocals = 6) (hlk : meth.locks = false) (hK : ∀ (x1 : Int32) (x2 : Int32) (x3 : Int32) (u : zU) (H : Heap) (locs : List Loc) (ls : Array Slot), K x1 x2 x3 u = some (v, u') → z_W D A b gM u H → va_S A s.heap H locs → lv_has ls 6 [(0, .ref (b + 0)), (1, .int x1), (2, .int x2), (3, .int x3)] → W p l e { frames := 0, cells := 0, slots := 0, locals := 0 } s m args below meth c H locs 0 0 (z_End D A b gM below args s (some (.int v)) u') (F0 m 39 ls [])) : ∀ (n : Nat) (x1 : Int32) (x2 : Int32) (x3 : Int32) (x4 : Int32) (u : zU) (H : Heap) (locs : List Loc) (ls : Array Slot), f_X11_counts_141 K n x1 x2 x3 x4 u = some (v, u') → z_W D A b gM u H → va_S A s.heap H locs → lv_has ls 6 [(0, .ref (b + 0)), (1, .int x1), (2, .int x2), (3, .int x3), (4, .int x4)] → W p l e { frames := 0, cells := 0, slots := 0, locals := 0 } s m args below meth c H locs 0 0 (z_End D A b gM below args s (some (.int v)) u') (F0 m 141 ls []) := by
  have hx := C0.1
  have hb := C0.2.1
  intro n
  induction n with
  | zero => intro x1 x2 x3 x4 u H locs ls h hW hS hl; cases h
  | succ n ih =>
    intro x1 x2 x3 x4 u H locs ls h hW hS hl
    rw [f_X11_counts_141_s] at h
    refine lv_iload hx hb dX11_counts_141 (lv_at hl 4 rfl) ?_
    refine lv_bipush (v := (8 : Int32)) hx hb dX11_counts_143 (by decide) ?_
    refine lv_icmp_ge (tgt := 168) hx hb dX11_counts_145 (by decide) (fun hc => ?_) (fun hc => ?_)
    · replace h := z_t h hc
      clear hc
      refine lv_iinc (v := x3 + (1 : Int32)) (lv' := [(3, .int (x3 + (1 : Int32))), (0, .ref (b + 0)), (1, .int x1), (2, .int x2), (4, .int x4)]) hx hb dX11_counts_168 hl (k := 3) rfl rfl (by decide) rfl (fun ls hl => ?_)
      refine lv_goto (tgt := 39) hx hb dX11_counts_171 (by decide) ?_
      exact hK _ _ _ _ _ _ _ h hW hS (lv_sub hl [1, 2, 3, 0] rfl)
    · replace h := z_f h hc
      clear hc
      refine lv_aload_n hx hb dX11_counts_148 rfl (lv_at hl 0 rfl) ?_
      refine z_getr (o := 7) C0 hW fl_X11_32 rfl rfl rfl dX11_counts_149 ?_
      refine lv_iload hx hb dX11_counts_152 (lv_at hl 4 rfl) ?_
      refine lv_aload_n hx hb dX11_counts_154 rfl (lv_at hl 0 rfl) ?_
      refine z_getr (o := 8) C0 hW fl_X11_35 rfl rfl rfl dX11_counts_155 ?_
      refine lv_iload hx hb dX11_counts_158 (lv_at hl 4 rfl) ?_
      replace h := z_if h
      obtain ⟨hin, h⟩ := h
      refine z_iald (n := 8) C0 hW rfl rfl hin rfl dX11_counts_160 ?_
      clear hin
      refine lv_topi (fun z2 e1 => ?_)
      replace h := z_ly h e1
      clear e1
      replace h := z_if h
      obtain ⟨hin, h⟩ := h
      refine z_iast (n := 8) C0 hW hS rfl rfl hin rfl dX11_counts_161 (fun H locs u3 e1 hW hS => ?_)
      replace h := z_ly h e1
      clear e1
      refine lv_iinc (v := x4 + (1 : Int32)) (lv' := [(4, .int (x4 + (1 : Int32))), (0, .ref (b + 0)), (1, .int x1), (2, .int x2), (3, .int x3)]) hx hb dX11_counts_162 hl (k := 4) rfl rfl (by decide) rfl (fun ls hl => ?_)
      refine lv_goto (tgt := 141) hx hb dX11_counts_165 (by decide) ?_
      exact ih _ _ _ _ _ _ _ _ h hW hS (lv_sub hl [1, 2, 3, 4, 0] rfl)
set_option maxRecDepth 100000 in
set_option maxHeartbeats 4000000 in
theorem l_X11_counts_91 {l : Launch} {D : zD} {A : Nat → Prop} {b : Nat} {p : Program} {e : Env} {s : State} {m : MethodId} {args : Array Value} {below : List Frame} {meth : Method} {c : Code} {v : Int32} {u' : zU} {K : Int32 → Int32 → Int32 → Int32 → zU → Option (Int32 × zU)} (C0 : z_C p c cX11_counts s m args yX11_counts.cls D A) (hr : meth.sig.returnType = (some .int)) (hml : c.maxLocals = 6) (hlk : meth.locks = false) (hK : ∀ (x1 : Int32) (x2 : Int32) (x3 : Int32) (x4 : Int32) (u : zU) (H : Heap) (locs : List Loc) (ls : Array Slot), K x1 x2 x3 x4 u = some (v, u') → z_W D A b gM u H → va_S A s.heap H locs → lv_has ls 6 [(0, .ref (b + 0)), (1, .int x1), (2, .int x2), (3, .int x3), (4, .int x4)] → W p l e { frames := 0, cells := 0, slots := 0, locals := 0 } s m args below meth c H locs 0 0 (z_End D A b gM below args s (some (.int v)) u') (F0 m 81 ls [])) : ∀ (n : Nat) (x1 : Int32) (x2 : Int32) (x3 : Int32) (x4 : Int32) (x5 : Int32) (u : zU) (H : Heap) (locs : List Loc) (ls : Array Slot), f_X11_counts_91 K n x1 x2 x3 x4 x5 u = some (v, u') → z_W D A b gM u H → va_S A s.heap H locs → lv_has ls 6 [(0, .ref (b + 0)), (1, .int x1), (2, .int x2), (3, .int x3), (4, .int x4), (5, .int x5)] → W p l e { frames := 0, cells := 0, slots := 0, locals := 0 } s m args below meth c H locs 0 0 (z_End D A b gM below args s (some (.int v)) u') (F0 m 91 ls []) := by
  have hx := C0.1
  have hb := C0.2.1
  intro n
  induction n with
  | zero => intro x1 x2 x3 x4 x5 u H locs ls h hW hS hl; cases h
  | succ n ih =>
    intro x1 x2 x3 x4 x5 u H locs ls h hW hS hl
    rw [f_X11_counts_91_s] at h
    refine lv_iload hx hb dX11_counts_91 (lv_at hl 5 rfl) ?_
    refine lv_aload_n hx hb dX11_counts_93 rfl (lv_at hl 0 rfl) ?_
    refine z_getr (o := 1) C0 hW fl_X11_7 rfl rfl rfl dX11_counts_94 ?_
    refine lv_bipush (v := (7 : Int32)) hx hb dX11_counts_97 (by decide) ?_
    refine z_iald (k := 7) (n := 705) C0 hW rfl rfl (by decide) (by decide) dX11_counts_99 ?_
    refine lv_icmp_gt (tgt := 132) hx hb dX11_counts_100 (by decide) (fun hc => ?_) (fun hc => ?_)
    · replace h := z_t h hc
      clear hc
      refine lv_iinc (v := x4 + (1 : Int32)) (lv' := [(4, .int (x4 + (1 : Int32))), (0, .ref (b + 0)), (1, .int x1), (2, .int x2), (3, .int x3), (5, .int x5)]) hx hb dX11_counts_132 hl (k := 4) rfl rfl (by decide) rfl (fun ls hl => ?_)
      refine lv_goto (tgt := 81) hx hb dX11_counts_135 (by decide) ?_
      exact hK _ _ _ _ _ _ _ _ h hW hS (lv_sub hl [1, 2, 3, 4, 0] rfl)
    · replace h := z_f h hc
      clear hc
      refine lv_aload_n hx hb dX11_counts_103 rfl (lv_at hl 0 rfl) ?_
      refine z_getr (o := 8) C0 hW fl_X11_35 rfl rfl rfl dX11_counts_104 ?_
      refine lv_iload hx hb dX11_counts_107 (lv_at hl 4 rfl) ?_
      refine lv_iload hx hb dX11_counts_109 (lv_at hl 5 rfl) ?_
      refine lv_iadd hx hb dX11_counts_111 ?_
      refine lv_bipush (v := (8 : Int32)) hx hb dX11_counts_112 (by decide) ?_
      refine lv_irem hx hb dX11_counts_114 (by decide) ?_
      refine lv_topi (fun z4 e1 => ?_)
      replace h := z_ly h e1
      clear e1
      refine lv_dup2_11 hx hb dX11_counts_115 rfl rfl ?_
      replace h := z_if h
      obtain ⟨hin, h⟩ := h
      refine z_iald (n := 8) C0 hW rfl rfl hin rfl dX11_counts_116 ?_
      clear hin
      refine lv_topi (fun z5 e1 => ?_)
      replace h := z_ly h e1
      clear e1
      refine lv_aload_n hx hb dX11_counts_117 rfl (lv_at hl 0 rfl) ?_
      refine z_getr (o := 7) C0 hW fl_X11_32 rfl rfl rfl dX11_counts_118 ?_
      refine lv_iload hx hb dX11_counts_121 (lv_at hl 4 rfl) ?_
      replace h := z_if h
      obtain ⟨hin, h⟩ := h
      refine z_iald (n := 8) C0 hW rfl rfl hin rfl dX11_counts_123 ?_
      clear hin
      refine lv_topi (fun z6 e1 => ?_)
      replace h := z_ly h e1
      clear e1
      refine lv_iadd hx hb dX11_counts_124 ?_
      replace h := z_if h
      obtain ⟨hin, h⟩ := h
      refine z_iast (n := 8) C0 hW hS rfl rfl hin rfl dX11_counts_125 (fun H locs u7 e1 hW hS => ?_)
      replace h := z_ly h e1
      clear e1
      refine lv_iinc (v := x5 + (1 : Int32)) (lv' := [(5, .int (x5 + (1 : Int32))), (0, .ref (b + 0)), (1, .int x1), (2, .int x2), (3, .int x3), (4, .int x4)]) hx hb dX11_counts_126 hl (k := 5) rfl rfl (by decide) rfl (fun ls hl => ?_)
      refine lv_goto (tgt := 91) hx hb dX11_counts_129 (by decide) ?_
      exact ih _ _ _ _ _ _ _ _ _ h hW hS (lv_sub hl [1, 2, 3, 4, 5, 0] rfl)
set_option maxRecDepth 100000 in
set_option maxHeartbeats 4000000 in
theorem l_X11_counts_81 {l : Launch} {D : zD} {A : Nat → Prop} {b : Nat} {p : Program} {e : Env} {s : State} {m : MethodId} {args : Array Value} {below : List Frame} {meth : Method} {c : Code} {v : Int32} {u' : zU} {K : Int32 → Int32 → Int32 → zU → Option (Int32 × zU)} (C0 : z_C p c cX11_counts s m args yX11_counts.cls D A) (hr : meth.sig.returnType = (some .int)) (hml : c.maxLocals = 6) (hlk : meth.locks = false) (hK : ∀ (x1 : Int32) (x2 : Int32) (x3 : Int32) (u : zU) (H : Heap) (locs : List Loc) (ls : Array Slot), K x1 x2 x3 u = some (v, u') → z_W D A b gM u H → va_S A s.heap H locs → lv_has ls 6 [(0, .ref (b + 0)), (1, .int x1), (2, .int x2), (3, .int x3)] → W p l e { frames := 0, cells := 0, slots := 0, locals := 0 } s m args below meth c H locs 0 0 (z_End D A b gM below args s (some (.int v)) u') (F0 m 39 ls [])) : ∀ (n : Nat) (x1 : Int32) (x2 : Int32) (x3 : Int32) (x4 : Int32) (u : zU) (H : Heap) (locs : List Loc) (ls : Array Slot), f_X11_counts_81 K n x1 x2 x3 x4 u = some (v, u') → z_W D A b gM u H → va_S A s.heap H locs → lv_has ls 6 [(0, .ref (b + 0)), (1, .int x1), (2, .int x2), (3, .int x3), (4, .int x4)] → W p l e { frames := 0, cells := 0, slots := 0, locals := 0 } s m args below meth c H locs 0 0 (z_End D A b gM below args s (some (.int v)) u') (F0 m 81 ls []) := by
  have hx := C0.1
  have hb := C0.2.1
  intro n
  induction n with
  | zero => intro x1 x2 x3 x4 u H locs ls h hW hS hl; cases h
  | succ n ih =>
    intro x1 x2 x3 x4 u H locs ls h hW hS hl
    rw [f_X11_counts_81_s] at h
    refine lv_iload hx hb dX11_counts_81 (lv_at hl 4 rfl) ?_
    refine lv_bipush (v := (8 : Int32)) hx hb dX11_counts_83 (by decide) ?_
    refine lv_icmp_ge (tgt := 138) hx hb dX11_counts_85 (by decide) (fun hc => ?_) (fun hc => ?_)
    · replace h := z_t h hc
      clear hc
      refine lv_iconst (v := (0 : Int32)) hx hb dX11_counts_138 (by decide) ?_
      refine lv_istore (lv' := [(4, .int (0 : Int32)), (0, .ref (b + 0)), (1, .int x1), (2, .int x2), (3, .int x3)]) hx hb dX11_counts_139 hl (by decide) rfl (fun ls hl => ?_)
      exact l_X11_counts_141 C0 hr hml hlk hK 5000 _ _ _ _ _ _ _ _ h hW hS (lv_sub hl [1, 2, 3, 4, 0] rfl)
    · replace h := z_f h hc
      clear hc
      refine lv_iconst (v := (1 : Int32)) hx hb dX11_counts_88 (by decide) ?_
      refine lv_istore (lv' := [(5, .int (1 : Int32)), (0, .ref (b + 0)), (1, .int x1), (2, .int x2), (3, .int x3), (4, .int x4)]) hx hb dX11_counts_89 hl (by decide) rfl (fun ls hl => ?_)
      exact l_X11_counts_91 C0 hr hml hlk (fun q0 q1 q2 q3 q4 q5 q6 q7 h hW hS hl => ih q0 q1 q2 q3 q4 q5 q6 q7 h hW hS hl) 5000 _ _ _ _ _ _ _ _ _ h hW hS (lv_sub hl [1, 2, 3, 4, 5, 0] rfl)
set_option maxRecDepth 100000 in
set_option maxHeartbeats 4000000 in
theorem l_X11_counts_57 {l : Launch} {D : zD} {A : Nat → Prop} {b : Nat} {p : Program} {e : Env} {s : State} {m : MethodId} {args : Array Value} {below : List Frame} {meth : Method} {c : Code} {v : Int32} {u' : zU} {K : Int32 → Int32 → Int32 → zU → Option (Int32 × zU)} (C0 : z_C p c cX11_counts s m args yX11_counts.cls D A) (hr : meth.sig.returnType = (some .int)) (hml : c.maxLocals = 6) (hlk : meth.locks = false) (hK : ∀ (x1 : Int32) (x2 : Int32) (x3 : Int32) (u : zU) (H : Heap) (locs : List Loc) (ls : Array Slot), K x1 x2 x3 u = some (v, u') → z_W D A b gM u H → va_S A s.heap H locs → lv_has ls 6 [(0, .ref (b + 0)), (1, .int x1), (2, .int x2), (3, .int x3)] → W p l e { frames := 0, cells := 0, slots := 0, locals := 0 } s m args below meth c H locs 0 0 (z_End D A b gM below args s (some (.int v)) u') (F0 m 39 ls [])) : ∀ (n : Nat) (x1 : Int32) (x2 : Int32) (x3 : Int32) (x4 : Int32) (u : zU) (H : Heap) (locs : List Loc) (ls : Array Slot), f_X11_counts_57 K n x1 x2 x3 x4 u = some (v, u') → z_W D A b gM u H → va_S A s.heap H locs → lv_has ls 6 [(0, .ref (b + 0)), (1, .int x1), (2, .int x2), (3, .int x3), (4, .int x4)] → W p l e { frames := 0, cells := 0, slots := 0, locals := 0 } s m args below meth c H locs 0 0 (z_End D A b gM below args s (some (.int v)) u') (F0 m 57 ls []) := by
  have hx := C0.1
  have hb := C0.2.1
  intro n
  induction n with
  | zero => intro x1 x2 x3 x4 u H locs ls h hW hS hl; cases h
  | succ n ih =>
    intro x1 x2 x3 x4 u H locs ls h hW hS hl
    rw [f_X11_counts_57_s] at h
    refine lv_iload hx hb dX11_counts_57 (lv_at hl 4 rfl) ?_
    refine lv_bipush (v := (8 : Int32)) hx hb dX11_counts_59 (by decide) ?_
    refine lv_icmp_ge (tgt := 78) hx hb dX11_counts_61 (by decide) (fun hc => ?_) (fun hc => ?_)
    · replace h := z_t h hc
      clear hc
      refine lv_iconst (v := (0 : Int32)) hx hb dX11_counts_78 (by decide) ?_
      refine lv_istore (lv' := [(4, .int (0 : Int32)), (0, .ref (b + 0)), (1, .int x1), (2, .int x2), (3, .int x3)]) hx hb dX11_counts_79 hl (by decide) rfl (fun ls hl => ?_)
      exact l_X11_counts_81 C0 hr hml hlk hK 5000 _ _ _ _ _ _ _ _ h hW hS (lv_sub hl [1, 2, 3, 4, 0] rfl)
    · replace h := z_f h hc
      clear hc
      refine lv_aload_n hx hb dX11_counts_64 rfl (lv_at hl 0 rfl) ?_
      refine z_getr (o := 8) C0 hW fl_X11_35 rfl rfl rfl dX11_counts_65 ?_
      refine lv_iload hx hb dX11_counts_68 (lv_at hl 4 rfl) ?_
      refine lv_iconst (v := (0 : Int32)) hx hb dX11_counts_70 (by decide) ?_
      replace h := z_if h
      obtain ⟨hin, h⟩ := h
      refine z_iast (n := 8) C0 hW hS rfl rfl hin rfl dX11_counts_71 (fun H locs u8 e1 hW hS => ?_)
      replace h := z_ly h e1
      clear e1
      refine lv_iinc (v := x4 + (1 : Int32)) (lv' := [(4, .int (x4 + (1 : Int32))), (0, .ref (b + 0)), (1, .int x1), (2, .int x2), (3, .int x3)]) hx hb dX11_counts_72 hl (k := 4) rfl rfl (by decide) rfl (fun ls hl => ?_)
      refine lv_goto (tgt := 57) hx hb dX11_counts_75 (by decide) ?_
      exact ih _ _ _ _ _ _ _ _ h hW hS (lv_sub hl [1, 2, 3, 4, 0] rfl)
set_option maxRecDepth 100000 in
set_option maxHeartbeats 4000000 in
theorem l_X11_counts_39 {l : Launch} {D : zD} {A : Nat → Prop} {b : Nat} {p : Program} {e : Env} {s : State} {m : MethodId} {args : Array Value} {below : List Frame} {meth : Method} {c : Code} {v : Int32} {u' : zU} (C0 : z_C p c cX11_counts s m args yX11_counts.cls D A) (hr : meth.sig.returnType = (some .int)) (hml : c.maxLocals = 6) (hlk : meth.locks = false) : ∀ (n : Nat) (x1 : Int32) (x2 : Int32) (x3 : Int32) (u : zU) (H : Heap) (locs : List Loc) (ls : Array Slot), f_X11_counts_39 n x1 x2 x3 u = some (v, u') → z_W D A b gM u H → va_S A s.heap H locs → lv_has ls 6 [(0, .ref (b + 0)), (1, .int x1), (2, .int x2), (3, .int x3)] → W p l e { frames := 0, cells := 0, slots := 0, locals := 0 } s m args below meth c H locs 0 0 (z_End D A b gM below args s (some (.int v)) u') (F0 m 39 ls []) := by
  have hx := C0.1
  have hb := C0.2.1
  intro n
  induction n with
  | zero => intro x1 x2 x3 u H locs ls h hW hS hl; cases h
  | succ n ih =>
    intro x1 x2 x3 u H locs ls h hW hS hl
    rw [f_X11_counts_39_s] at h
    refine lv_iload_n hx hb dX11_counts_39 rfl (lv_at hl 3 rfl) ?_
    refine lv_iload_n hx hb dX11_counts_40 rfl (lv_at hl 1 rfl) ?_
    refine lv_icmp_ge (tgt := 174) hx hb dX11_counts_41 (by decide) (fun hc => ?_) (fun hc => ?_)
    · replace h := z_t h hc
      clear hc
      refine lv_iload_n hx hb dX11_counts_174 rfl (lv_at hl 2 rfl) ?_
      cases h
      exact z_iret C0 hr hlk hW hS dX11_counts_175
    · replace h := z_f h hc
      clear hc
      refine lv_iload_n hx hb dX11_counts_44 rfl (lv_at hl 2 rfl) ?_
      refine lv_aload_n hx hb dX11_counts_45 rfl (lv_at hl 0 rfl) ?_
      refine z_getr (o := 1) C0 hW fl_X11_7 rfl rfl rfl dX11_counts_46 ?_
      refine lv_bipush (v := (7 : Int32)) hx hb dX11_counts_49 (by decide) ?_
      refine z_iald (k := 7) (n := 705) C0 hW rfl rfl (by decide) (by decide) dX11_counts_51 ?_
      refine lv_imul hx hb dX11_counts_52 ?_
      refine lv_topi (fun z1 e1 => ?_)
      replace h := z_ly h e1
      clear e1
      refine lv_istore_n (lv' := [(2, .int z1), (0, .ref (b + 0)), (1, .int x1), (3, .int x3)]) hx hb dX11_counts_53 rfl hl (by decide) rfl (fun ls hl => ?_)
      refine lv_iconst (v := (0 : Int32)) hx hb dX11_counts_54 (by decide) ?_
      refine lv_istore (lv' := [(4, .int (0 : Int32)), (2, .int z1), (0, .ref (b + 0)), (1, .int x1), (3, .int x3)]) hx hb dX11_counts_55 hl (by decide) rfl (fun ls hl => ?_)
      exact l_X11_counts_57 C0 hr hml hlk (fun q0 q1 q2 q3 q4 q5 q6 h hW hS hl => ih q0 q1 q2 q3 q4 q5 q6 h hW hS hl) 5000 _ _ _ _ _ _ _ _ h hW hS (lv_sub hl [2, 3, 1, 4, 0] rfl)
set_option maxRecDepth 100000 in
set_option maxHeartbeats 4000000 in
theorem l_X11_counts_4 {l : Launch} {D : zD} {A : Nat → Prop} {b : Nat} {p : Program} {e : Env} {s : State} {m : MethodId} {args : Array Value} {below : List Frame} {meth : Method} {c : Code} {v : Int32} {u' : zU} (C0 : z_C p c cX11_counts s m args yX11_counts.cls D A) (hr : meth.sig.returnType = (some .int)) (hml : c.maxLocals = 6) (hlk : meth.locks = false) : ∀ (n : Nat) (x1 : Int32) (x2 : Int32) (x3 : Int32) (u : zU) (H : Heap) (locs : List Loc) (ls : Array Slot), f_X11_counts_4 n x1 x2 x3 u = some (v, u') → z_W D A b gM u H → va_S A s.heap H locs → lv_has ls 6 [(0, .ref (b + 0)), (1, .int x1), (2, .int x2), (3, .int x3)] → W p l e { frames := 0, cells := 0, slots := 0, locals := 0 } s m args below meth c H locs 0 0 (z_End D A b gM below args s (some (.int v)) u') (F0 m 4 ls []) := by
  have hx := C0.1
  have hb := C0.2.1
  intro n
  induction n with
  | zero => intro x1 x2 x3 u H locs ls h hW hS hl; cases h
  | succ n ih =>
    intro x1 x2 x3 u H locs ls h hW hS hl
    rw [f_X11_counts_4_s] at h
    refine lv_iload_n hx hb dX11_counts_4 rfl (lv_at hl 3 rfl) ?_
    refine lv_bipush (v := (8 : Int32)) hx hb dX11_counts_5 (by decide) ?_
    refine lv_icmp_ge (tgt := 37) hx hb dX11_counts_7 (by decide) (fun hc => ?_) (fun hc => ?_)
    · replace h := z_t h hc
      clear hc
      refine lv_iconst (v := (0 : Int32)) hx hb dX11_counts_37 (by decide) ?_
      refine lv_istore_n (lv' := [(3, .int (0 : Int32)), (0, .ref (b + 0)), (1, .int x1), (2, .int x2)]) hx hb dX11_counts_38 rfl hl (by decide) rfl (fun ls hl => ?_)
      exact l_X11_counts_39 C0 hr hml hlk 5000 _ _ _ _ _ _ _ h hW hS (lv_sub hl [1, 2, 3, 0] rfl)
    · replace h := z_f h hc
      clear hc
      refine lv_aload_n hx hb dX11_counts_10 rfl (lv_at hl 0 rfl) ?_
      refine z_getr (o := 7) C0 hW fl_X11_32 rfl rfl rfl dX11_counts_11 ?_
      refine lv_iload_n hx hb dX11_counts_14 rfl (lv_at hl 3 rfl) ?_
      refine lv_iload_n hx hb dX11_counts_15 rfl (lv_at hl 3 rfl) ?_
      refine lv_aload_n hx hb dX11_counts_16 rfl (lv_at hl 0 rfl) ?_
      refine z_getr (o := 1) C0 hW fl_X11_7 rfl rfl rfl dX11_counts_17 ?_
      refine lv_iconst (v := (4 : Int32)) hx hb dX11_counts_20 (by decide) ?_
      refine z_iald (k := 4) (n := 705) C0 hW rfl rfl (by decide) (by decide) dX11_counts_21 ?_
      refine lv_icmp_ne (tgt := 29) hx hb dX11_counts_22 (by decide) (fun hc => ?_) (fun hc => ?_)
      · replace h := z_f h hc
        clear hc
        refine lv_iconst (v := (0 : Int32)) hx hb dX11_counts_29 (by decide) ?_
        replace h := z_if h
        obtain ⟨hin, h⟩ := h
        refine z_iast (n := 8) C0 hW hS rfl rfl hin rfl dX11_counts_30 (fun H locs u9 e1 hW hS => ?_)
        replace h := z_ly h e1
        clear e1
        refine lv_iinc (v := x3 + (1 : Int32)) (lv' := [(3, .int (x3 + (1 : Int32))), (0, .ref (b + 0)), (1, .int x1), (2, .int x2)]) hx hb dX11_counts_31 hl (k := 3) rfl rfl (by decide) rfl (fun ls hl => ?_)
        refine lv_goto (tgt := 4) hx hb dX11_counts_34 (by decide) ?_
        exact ih _ _ _ _ _ _ _ h hW hS (lv_sub hl [1, 2, 3, 0] rfl)
      · replace h := z_t h hc
        clear hc
        refine lv_iconst (v := (1 : Int32)) hx hb dX11_counts_25 (by decide) ?_
        refine lv_goto (tgt := 30) hx hb dX11_counts_26 (by decide) ?_
        replace h := z_if h
        obtain ⟨hin, h⟩ := h
        refine z_iast (n := 8) C0 hW hS rfl rfl hin rfl dX11_counts_30 (fun H locs u10 e1 hW hS => ?_)
        replace h := z_ly h e1
        clear e1
        refine lv_iinc (v := x3 + (1 : Int32)) (lv' := [(3, .int (x3 + (1 : Int32))), (0, .ref (b + 0)), (1, .int x1), (2, .int x2)]) hx hb dX11_counts_31 hl (k := 3) rfl rfl (by decide) rfl (fun ls hl => ?_)
        refine lv_goto (tgt := 4) hx hb dX11_counts_34 (by decide) ?_
        exact ih _ _ _ _ _ _ _ h hW hS (lv_sub hl [1, 2, 3, 0] rfl)
theorem f_X11_counts_e (a1 : Int32) (u : zU) : f_X11_counts a1 u = f_X11_counts_4 5000 a1 (1 : Int32) (0 : Int32) u := rfl
set_option maxRecDepth 100000 in
set_option maxHeartbeats 4000000 in
theorem c_X11_counts (l : Launch) (D : zD) (A : Nat → Prop) (b : Nat) (a1 : Int32) (u : zU) {v : Int32} {u' : zU} (h : f_X11_counts a1 u = some (v, u')) : z_M l D A b gM yX11_counts cX11_counts 6 (some .int) 0 0 [.ref (b + 0), .int a1] u (some (.int v)) u' := by
  refine z_enter (by decide) (Nat.le_of_ble_eq_true rfl) ?_
  intro p e s m below meth c ls C0 hr hml hlk hW hS hl
  have hl : lv_has ls 6 [(0, .ref (b + 0)), (1, .int a1)] := hl
  have hx := C0.1
  have hb := C0.2.1
  rw [f_X11_counts_e] at h
  refine lv_iconst (v := (1 : Int32)) hx hb dX11_counts_0 (by decide) ?_
  refine lv_istore_n (lv' := [(2, .int (1 : Int32)), (0, .ref (b + 0)), (1, .int a1)]) hx hb dX11_counts_1 rfl hl (by decide) rfl (fun ls hl => ?_)
  refine lv_iconst (v := (0 : Int32)) hx hb dX11_counts_2 (by decide) ?_
  refine lv_istore_n (lv' := [(3, .int (0 : Int32)), (2, .int (1 : Int32)), (0, .ref (b + 0)), (1, .int a1)]) hx hb dX11_counts_3 rfl hl (by decide) rfl (fun ls hl => ?_)
  exact l_X11_counts_4 C0 hr hml hlk 5000 _ _ _ _ _ _ _ h hW hS (lv_sub hl [2, 3, 1, 0] rfl)
def f_X11_odds (a1 : Int32) (a2 : Int32) (u : zU) : Option (Int32 × zU) :=
  z_let (f_X11_isCradle a1 u) (fun t1 => if t1 = true then (z_let (f_X11_isIn a2 (1 : Int32) (5 : Int32) u) (fun t2 => if t2 = true then (z_let (z_up u 0 0 (0 : Int32)) (fun u3 => if (u3 0 0) ≤ 0 then (z_b2 (f_X11_counts a2 u3) (fun r4 u5 => if z_in a1 8 = true then (z_let (u5 7 (a1).toNatClampNeg) (fun z6 => if ¬ r4 = 0 then (some (((10000 : Int32) * z6) / r4, u5)) else none)) else none)) else (some ((0 : Int32), u3)))) else (z_let (z_up u 0 0 (2 : Int32)) (fun u7 => if (u7 0 0) ≤ 0 then (z_b2 (f_X11_counts a2 u7) (fun r8 u9 => if z_in a1 8 = true then (z_let (u9 7 (a1).toNatClampNeg) (fun z10 => if ¬ r8 = 0 then (some (((10000 : Int32) * z10) / r8, u9)) else none)) else none)) else (some ((0 : Int32), u7)))))) else (z_let (z_up u 0 0 (1 : Int32)) (fun u11 => if (u11 0 0) ≤ 0 then (z_b2 (f_X11_counts a2 u11) (fun r12 u13 => if z_in a1 8 = true then (z_let (u13 7 (a1).toNatClampNeg) (fun z14 => if ¬ r12 = 0 then (some (((10000 : Int32) * z14) / r12, u13)) else none)) else none)) else (some ((0 : Int32), u11)))))
theorem f_X11_odds_e (a1 : Int32) (a2 : Int32) (u : zU) : f_X11_odds a1 a2 u = z_let (f_X11_isCradle a1 u) (fun t1 => if t1 = true then (z_let (f_X11_isIn a2 (1 : Int32) (5 : Int32) u) (fun t2 => if t2 = true then (z_let (z_up u 0 0 (0 : Int32)) (fun u3 => if (u3 0 0) ≤ 0 then (z_b2 (f_X11_counts a2 u3) (fun r4 u5 => if z_in a1 8 = true then (z_let (u5 7 (a1).toNatClampNeg) (fun z6 => if ¬ r4 = 0 then (some (((10000 : Int32) * z6) / r4, u5)) else none)) else none)) else (some ((0 : Int32), u3)))) else (z_let (z_up u 0 0 (2 : Int32)) (fun u7 => if (u7 0 0) ≤ 0 then (z_b2 (f_X11_counts a2 u7) (fun r8 u9 => if z_in a1 8 = true then (z_let (u9 7 (a1).toNatClampNeg) (fun z10 => if ¬ r8 = 0 then (some (((10000 : Int32) * z10) / r8, u9)) else none)) else none)) else (some ((0 : Int32), u7)))))) else (z_let (z_up u 0 0 (1 : Int32)) (fun u11 => if (u11 0 0) ≤ 0 then (z_b2 (f_X11_counts a2 u11) (fun r12 u13 => if z_in a1 8 = true then (z_let (u13 7 (a1).toNatClampNeg) (fun z14 => if ¬ r12 = 0 then (some (((10000 : Int32) * z14) / r12, u13)) else none)) else none)) else (some ((0 : Int32), u11))))) := rfl
set_option maxRecDepth 100000 in
set_option maxHeartbeats 4000000 in
theorem c_X11_odds (l : Launch) (D : zD) (A : Nat → Prop) (b : Nat) (a1 : Int32) (a2 : Int32) (u : zU) {v : Int32} {u' : zU} (h : f_X11_odds a1 a2 u = some (v, u')) : z_M l D A b gM yX11_odds cX11_odds 4 (some .int) 2 42 [.ref (b + 0), .int a1, .int a2] u (some (.int v)) u' := by
  refine z_enter (by decide) (Nat.le_of_ble_eq_true rfl) ?_
  intro p e s m below meth c ls C0 hr hml hlk hW hS hl
  have hl : lv_has ls 4 [(0, .ref (b + 0)), (1, .int a1), (2, .int a2)] := hl
  have hx := C0.1
  have hb := C0.2.1
  rw [f_X11_odds_e] at h
  refine lv_aload_n hx hb dX11_odds_0 rfl (lv_at hl 0 rfl) ?_
  refine lv_iload_n hx hb dX11_odds_1 rfl (lv_at hl 1 rfl) ?_
  obtain ⟨t1, hq⟩ : ∃ y, f_X11_isCradle a1 u = y := ⟨_, rfl⟩
  replace h := z_lz h hq
  refine z_csi (As := [.int a1]) C0 hml hl.1 hW hS (c_X11_isCradle l D A b a1 u hq) ms_X11_294 ⟨Nat.le_of_ble_eq_true rfl, Nat.le_of_ble_eq_true rfl⟩ rfl rfl (Nat.le_of_ble_eq_true rfl) dX11_odds_2 (fun H locs hW hS => ?_)
  clear hq
  refine z_ifneZ C0 (tgt := 12) dX11_odds_5 (by decide) (fun hc => ?_) (fun hc => ?_)
  · replace h := z_t h hc
    clear hc
    refine lv_iload_n hx hb dX11_odds_12 rfl (lv_at hl 2 rfl) ?_
    refine lv_iconst (v := (1 : Int32)) hx hb dX11_odds_13 (by decide) ?_
    refine lv_iconst (v := (5 : Int32)) hx hb dX11_odds_14 (by decide) ?_
    obtain ⟨t2, hq⟩ : ∃ y, f_X11_isIn a2 (1 : Int32) (5 : Int32) u = y := ⟨_, rfl⟩
    replace h := z_lz h hq
    refine z_csi (As := [.int a2, .int (1 : Int32), .int (5 : Int32)]) C0 hml hl.1 hW hS (c_X11_isIn l D A b a2 (1 : Int32) (5 : Int32) u hq) ms_X11_45 ⟨Nat.le_of_ble_eq_true rfl, Nat.le_of_ble_eq_true rfl⟩ rfl rfl (Nat.le_of_ble_eq_true rfl) dX11_odds_15 (fun H locs hW hS => ?_)
    clear hq
    refine z_ifneZ C0 (tgt := 25) dX11_odds_18 (by decide) (fun hc => ?_) (fun hc => ?_)
    · replace h := z_t h hc
      clear hc
      refine lv_iconst (v := (0 : Int32)) hx hb dX11_odds_25 (by decide) ?_
      refine z_puti C0 hW hS fl_X11_42 rfl rfl rfl rfl dX11_odds_26 (fun H locs u3 e1 hW hS => ?_)
      replace h := z_ly h e1
      clear e1
      refine lv_aload_n hx hb dX11_odds_29 rfl (lv_at hl 0 rfl) ?_
      refine z_geti C0 hW fl_X11_42 rfl rfl dX11_odds_30 ?_
      refine lv_if_le (tgt := 38) hx hb dX11_odds_33 (by decide) (fun hc => ?_) (fun hc => ?_)
      · replace h := z_t h hc
        clear hc
        refine lv_aload_n hx hb dX11_odds_38 rfl (lv_at hl 0 rfl) ?_
        refine lv_iload_n hx hb dX11_odds_39 rfl (lv_at hl 2 rfl) ?_
        replace h := z_bd2 h
        obtain ⟨r4, u5, hq, h⟩ := h
        refine z_cvi (As := [.int a2]) C0 hml hl.1 hW hS (c_X11_counts l D A b a2 u3 hq) mv_X11_324 rfl ⟨Nat.le_of_ble_eq_true rfl, Nat.le_of_ble_eq_true rfl⟩ rfl rfl (Nat.le_of_ble_eq_true rfl) dX11_odds_40 (fun H locs hW hS => ?_)
        clear hq
        refine lv_istore_n (lv' := [(3, .int r4), (0, .ref (b + 0)), (1, .int a1), (2, .int a2)]) hx hb dX11_odds_43 rfl hl (by decide) rfl (fun ls hl => ?_)
        refine lv_sipush (v := (10000 : Int32)) hx hb dX11_odds_44 (by decide) ?_
        refine lv_aload_n hx hb dX11_odds_47 rfl (lv_at hl 1 rfl) ?_
        refine z_getr (o := 7) C0 hW fl_X11_32 rfl rfl rfl dX11_odds_48 ?_
        refine lv_iload_n hx hb dX11_odds_51 rfl (lv_at hl 2 rfl) ?_
        replace h := z_if h
        obtain ⟨hin, h⟩ := h
        refine z_iald (n := 8) C0 hW rfl rfl hin rfl dX11_odds_52 ?_
        clear hin
        refine lv_topi (fun z6 e1 => ?_)
        replace h := z_ly h e1
        clear e1
        refine lv_imul hx hb dX11_odds_53 ?_
        refine lv_iload_n hx hb dX11_odds_54 rfl (lv_at hl 0 rfl) ?_
        replace h := z_if h
        obtain ⟨hne, h⟩ := h
        refine lv_idiv hx hb dX11_odds_55 hne ?_
        clear hne
        cases h
        exact z_iret C0 hr hlk hW hS dX11_odds_56
      · replace h := z_f h hc
        clear hc
        refine lv_iconst (v := (0 : Int32)) hx hb dX11_odds_36 (by decide) ?_
        cases h
        exact z_iret C0 hr hlk hW hS dX11_odds_37
    · replace h := z_ff h hc
      clear hc
      refine lv_iconst (v := (2 : Int32)) hx hb dX11_odds_21 (by decide) ?_
      refine lv_goto (tgt := 26) hx hb dX11_odds_22 (by decide) ?_
      refine z_puti C0 hW hS fl_X11_42 rfl rfl rfl rfl dX11_odds_26 (fun H locs u7 e1 hW hS => ?_)
      replace h := z_ly h e1
      clear e1
      refine lv_aload_n hx hb dX11_odds_29 rfl (lv_at hl 0 rfl) ?_
      refine z_geti C0 hW fl_X11_42 rfl rfl dX11_odds_30 ?_
      refine lv_if_le (tgt := 38) hx hb dX11_odds_33 (by decide) (fun hc => ?_) (fun hc => ?_)
      · replace h := z_t h hc
        clear hc
        refine lv_aload_n hx hb dX11_odds_38 rfl (lv_at hl 0 rfl) ?_
        refine lv_iload_n hx hb dX11_odds_39 rfl (lv_at hl 2 rfl) ?_
        replace h := z_bd2 h
        obtain ⟨r8, u9, hq, h⟩ := h
        refine z_cvi (As := [.int a2]) C0 hml hl.1 hW hS (c_X11_counts l D A b a2 u7 hq) mv_X11_324 rfl ⟨Nat.le_of_ble_eq_true rfl, Nat.le_of_ble_eq_true rfl⟩ rfl rfl (Nat.le_of_ble_eq_true rfl) dX11_odds_40 (fun H locs hW hS => ?_)
        clear hq
        refine lv_istore_n (lv' := [(3, .int r8), (0, .ref (b + 0)), (1, .int a1), (2, .int a2)]) hx hb dX11_odds_43 rfl hl (by decide) rfl (fun ls hl => ?_)
        refine lv_sipush (v := (10000 : Int32)) hx hb dX11_odds_44 (by decide) ?_
        refine lv_aload_n hx hb dX11_odds_47 rfl (lv_at hl 1 rfl) ?_
        refine z_getr (o := 7) C0 hW fl_X11_32 rfl rfl rfl dX11_odds_48 ?_
        refine lv_iload_n hx hb dX11_odds_51 rfl (lv_at hl 2 rfl) ?_
        replace h := z_if h
        obtain ⟨hin, h⟩ := h
        refine z_iald (n := 8) C0 hW rfl rfl hin rfl dX11_odds_52 ?_
        clear hin
        refine lv_topi (fun z10 e1 => ?_)
        replace h := z_ly h e1
        clear e1
        refine lv_imul hx hb dX11_odds_53 ?_
        refine lv_iload_n hx hb dX11_odds_54 rfl (lv_at hl 0 rfl) ?_
        replace h := z_if h
        obtain ⟨hne, h⟩ := h
        refine lv_idiv hx hb dX11_odds_55 hne ?_
        clear hne
        cases h
        exact z_iret C0 hr hlk hW hS dX11_odds_56
      · replace h := z_f h hc
        clear hc
        refine lv_iconst (v := (0 : Int32)) hx hb dX11_odds_36 (by decide) ?_
        cases h
        exact z_iret C0 hr hlk hW hS dX11_odds_37
  · replace h := z_ff h hc
    clear hc
    refine lv_iconst (v := (1 : Int32)) hx hb dX11_odds_8 (by decide) ?_
    refine lv_goto (tgt := 26) hx hb dX11_odds_9 (by decide) ?_
    refine z_puti C0 hW hS fl_X11_42 rfl rfl rfl rfl dX11_odds_26 (fun H locs u11 e1 hW hS => ?_)
    replace h := z_ly h e1
    clear e1
    refine lv_aload_n hx hb dX11_odds_29 rfl (lv_at hl 0 rfl) ?_
    refine z_geti C0 hW fl_X11_42 rfl rfl dX11_odds_30 ?_
    refine lv_if_le (tgt := 38) hx hb dX11_odds_33 (by decide) (fun hc => ?_) (fun hc => ?_)
    · replace h := z_t h hc
      clear hc
      refine lv_aload_n hx hb dX11_odds_38 rfl (lv_at hl 0 rfl) ?_
      refine lv_iload_n hx hb dX11_odds_39 rfl (lv_at hl 2 rfl) ?_
      replace h := z_bd2 h
      obtain ⟨r12, u13, hq, h⟩ := h
      refine z_cvi (As := [.int a2]) C0 hml hl.1 hW hS (c_X11_counts l D A b a2 u11 hq) mv_X11_324 rfl ⟨Nat.le_of_ble_eq_true rfl, Nat.le_of_ble_eq_true rfl⟩ rfl rfl (Nat.le_of_ble_eq_true rfl) dX11_odds_40 (fun H locs hW hS => ?_)
      clear hq
      refine lv_istore_n (lv' := [(3, .int r12), (0, .ref (b + 0)), (1, .int a1), (2, .int a2)]) hx hb dX11_odds_43 rfl hl (by decide) rfl (fun ls hl => ?_)
      refine lv_sipush (v := (10000 : Int32)) hx hb dX11_odds_44 (by decide) ?_
      refine lv_aload_n hx hb dX11_odds_47 rfl (lv_at hl 1 rfl) ?_
      refine z_getr (o := 7) C0 hW fl_X11_32 rfl rfl rfl dX11_odds_48 ?_
      refine lv_iload_n hx hb dX11_odds_51 rfl (lv_at hl 2 rfl) ?_
      replace h := z_if h
      obtain ⟨hin, h⟩ := h
      refine z_iald (n := 8) C0 hW rfl rfl hin rfl dX11_odds_52 ?_
      clear hin
      refine lv_topi (fun z14 e1 => ?_)
      replace h := z_ly h e1
      clear e1
      refine lv_imul hx hb dX11_odds_53 ?_
      refine lv_iload_n hx hb dX11_odds_54 rfl (lv_at hl 0 rfl) ?_
      replace h := z_if h
      obtain ⟨hne, h⟩ := h
      refine lv_idiv hx hb dX11_odds_55 hne ?_
      clear hne
      cases h
      exact z_iret C0 hr hlk hW hS dX11_odds_56
    · replace h := z_f h hc
      clear hc
      refine lv_iconst (v := (0 : Int32)) hx hb dX11_odds_36 (by decide) ?_
      cases h
      exact z_iret C0 hr hlk hW hS dX11_odds_37
def f_X11_best_38 : Nat → Int32 → Int32 → Int32 → zU → Option (Int32 × zU)
  | 0, _, _, _, _ => none
  | n + 1, x2, x3, x4, u =>
    if (8 : Int32) ≤ x4 then (some (x3, u)) else ((f_X11_hasRoom x4 u).bind (fun t5 => if t5 = true then (if x3 = (-1 : Int32) then (f_X11_best_38 n x2 x4 (x4 + (1 : Int32)) u) else (if z_in x4 8 = true then (z_let (u 7 (x4).toNatClampNeg) (fun z6 => if ¬ x2 = 0 then (if z_in x3 8 = true then (z_let (u 7 (x3).toNatClampNeg) (fun z7 => if ¬ x2 = 0 then (if (((10000 : Int32) * z6) / x2) ≤ (((10000 : Int32) * z7) / x2) then (f_X11_best_38 n x2 x3 (x4 + (1 : Int32)) u) else (f_X11_best_38 n x2 x4 (x4 + (1 : Int32)) u)) else none)) else none) else none)) else none)) else (f_X11_best_38 n x2 x3 (x4 + (1 : Int32)) u)))
theorem f_X11_best_38_s (n : Nat) (x2 : Int32) (x3 : Int32) (x4 : Int32) (u : zU) : f_X11_best_38 (n + 1) x2 x3 x4 u = if (8 : Int32) ≤ x4 then (some (x3, u)) else ((f_X11_hasRoom x4 u).bind (fun t5 => if t5 = true then (if x3 = (-1 : Int32) then (f_X11_best_38 n x2 x4 (x4 + (1 : Int32)) u) else (if z_in x4 8 = true then (z_let (u 7 (x4).toNatClampNeg) (fun z6 => if ¬ x2 = 0 then (if z_in x3 8 = true then (z_let (u 7 (x3).toNatClampNeg) (fun z7 => if ¬ x2 = 0 then (if (((10000 : Int32) * z6) / x2) ≤ (((10000 : Int32) * z7) / x2) then (f_X11_best_38 n x2 x3 (x4 + (1 : Int32)) u) else (f_X11_best_38 n x2 x4 (x4 + (1 : Int32)) u)) else none)) else none) else none)) else none)) else (f_X11_best_38 n x2 x3 (x4 + (1 : Int32)) u))) := rfl
def f_X11_best (a1 : Int32) (u : zU) : Option (Int32 × zU) :=
  z_let (f_X11_isIn a1 (1 : Int32) (5 : Int32) u) (fun t1 => if t1 = true then (z_let (z_up u 0 0 (0 : Int32)) (fun u2 => if (u2 0 0) ≤ 0 then (z_b2 (f_X11_counts a1 u2) (fun r3 u4 => f_X11_best_38 5000 r3 (-1 : Int32) (0 : Int32) u4)) else (some ((0 : Int32), u2)))) else (z_let (z_up u 0 0 (1 : Int32)) (fun u8 => if (u8 0 0) ≤ 0 then (z_b2 (f_X11_counts a1 u8) (fun r9 u10 => f_X11_best_38 5000 r9 (-1 : Int32) (0 : Int32) u10)) else (some ((0 : Int32), u8)))))
set_option maxRecDepth 100000 in
set_option maxHeartbeats 4000000 in
theorem l_X11_best_38 {l : Launch} {D : zD} {A : Nat → Prop} {b : Nat} {p : Program} {e : Env} {s : State} {m : MethodId} {args : Array Value} {below : List Frame} {meth : Method} {c : Code} {v : Int32} {u' : zU} (C0 : z_C p c cX11_best s m args yX11_best.cls D A) (hr : meth.sig.returnType = (some .int)) (hml : c.maxLocals = 5) (hlk : meth.locks = false) : ∀ (n : Nat) (x2 : Int32) (x3 : Int32) (x4 : Int32) (u : zU) (H : Heap) (locs : List Loc) (ls : Array Slot), f_X11_best_38 n x2 x3 x4 u = some (v, u') → z_W D A b gM u H → va_S A s.heap H locs → lv_has ls 5 [(0, .ref (b + 0)), (2, .int x2), (3, .int x3), (4, .int x4)] → W p l e { frames := 3, cells := 0, slots := 0, locals := 66 } s m args below meth c H locs 0 0 (z_End D A b gM below args s (some (.int v)) u') (F0 m 38 ls []) := by
  have hx := C0.1
  have hb := C0.2.1
  intro n
  induction n with
  | zero => intro x2 x3 x4 u H locs ls h hW hS hl; cases h
  | succ n ih =>
    intro x2 x3 x4 u H locs ls h hW hS hl
    rw [f_X11_best_38_s] at h
    refine lv_iload hx hb dX11_best_38 (lv_at hl 3 rfl) ?_
    refine lv_bipush (v := (8 : Int32)) hx hb dX11_best_40 (by decide) ?_
    refine lv_icmp_ge (tgt := 96) hx hb dX11_best_42 (by decide) (fun hc => ?_) (fun hc => ?_)
    · replace h := z_t h hc
      clear hc
      refine lv_iload_n hx hb dX11_best_96 rfl (lv_at hl 2 rfl) ?_
      cases h
      exact z_iret C0 hr hlk hW hS dX11_best_97
    · replace h := z_f h hc
      clear hc
      refine lv_aload_n hx hb dX11_best_45 rfl (lv_at hl 0 rfl) ?_
      refine lv_iload hx hb dX11_best_46 (lv_at hl 3 rfl) ?_
      replace h := z_bd h
      obtain ⟨t5, hq, h⟩ := h
      refine z_cvi (As := [.int x4]) C0 hml hl.1 hW hS (c_X11_hasRoom l D A b x4 u hq) mv_X11_127 rfl ⟨Nat.le_of_ble_eq_true rfl, Nat.le_of_ble_eq_true rfl⟩ rfl rfl (Nat.le_of_ble_eq_true rfl) dX11_best_48 (fun H locs hW hS => ?_)
      clear hq
      refine z_ifeqZ C0 (tgt := 90) dX11_best_51 (by decide) (fun hc => ?_) (fun hc => ?_)
      · replace h := z_ff h hc
        clear hc
        refine lv_iinc (v := x4 + (1 : Int32)) (lv' := [(4, .int (x4 + (1 : Int32))), (0, .ref (b + 0)), (2, .int x2), (3, .int x3)]) hx hb dX11_best_90 hl (k := 3) rfl rfl (by decide) rfl (fun ls hl => ?_)
        refine lv_goto (tgt := 38) hx hb dX11_best_93 (by decide) ?_
        exact ih _ _ _ _ _ _ _ h hW hS (lv_sub hl [1, 2, 3, 0] rfl)
      · replace h := z_t h hc
        clear hc
        refine lv_iload_n hx hb dX11_best_54 rfl (lv_at hl 2 rfl) ?_
        refine lv_iconst (v := (-1 : Int32)) hx hb dX11_best_55 (by decide) ?_
        refine lv_icmp_eq (tgt := 87) hx hb dX11_best_56 (by decide) (fun hc => ?_) (fun hc => ?_)
        · replace h := z_t h hc
          clear hc
          refine lv_iload hx hb dX11_best_87 (lv_at hl 3 rfl) ?_
          refine lv_istore_n (lv' := [(3, .int x4), (0, .ref (b + 0)), (2, .int x2), (4, .int x4)]) hx hb dX11_best_89 rfl hl (by decide) rfl (fun ls hl => ?_)
          refine lv_iinc (v := x4 + (1 : Int32)) (lv' := [(4, .int (x4 + (1 : Int32))), (3, .int x4), (0, .ref (b + 0)), (2, .int x2)]) hx hb dX11_best_90 hl (k := 3) rfl rfl (by decide) rfl (fun ls hl => ?_)
          refine lv_goto (tgt := 38) hx hb dX11_best_93 (by decide) ?_
          exact ih _ _ _ _ _ _ _ h hW hS (lv_sub hl [2, 3, 1, 0] rfl)
        · replace h := z_f h hc
          clear hc
          refine lv_sipush (v := (10000 : Int32)) hx hb dX11_best_59 (by decide) ?_
          refine lv_aload_n hx hb dX11_best_62 rfl (lv_at hl 0 rfl) ?_
          refine z_getr (o := 7) C0 hW fl_X11_32 rfl rfl rfl dX11_best_63 ?_
          refine lv_iload hx hb dX11_best_66 (lv_at hl 3 rfl) ?_
          replace h := z_if h
          obtain ⟨hin, h⟩ := h
          refine z_iald (n := 8) C0 hW rfl rfl hin rfl dX11_best_68 ?_
          clear hin
          refine lv_topi (fun z6 e1 => ?_)
          replace h := z_ly h e1
          clear e1
          refine lv_imul hx hb dX11_best_69 ?_
          refine lv_iload_n hx hb dX11_best_70 rfl (lv_at hl 1 rfl) ?_
          replace h := z_if h
          obtain ⟨hne, h⟩ := h
          refine lv_idiv hx hb dX11_best_71 hne ?_
          clear hne
          refine lv_sipush (v := (10000 : Int32)) hx hb dX11_best_72 (by decide) ?_
          refine lv_aload_n hx hb dX11_best_75 rfl (lv_at hl 0 rfl) ?_
          refine z_getr (o := 7) C0 hW fl_X11_32 rfl rfl rfl dX11_best_76 ?_
          refine lv_iload_n hx hb dX11_best_79 rfl (lv_at hl 2 rfl) ?_
          replace h := z_if h
          obtain ⟨hin, h⟩ := h
          refine z_iald (n := 8) C0 hW rfl rfl hin rfl dX11_best_80 ?_
          clear hin
          refine lv_topi (fun z7 e1 => ?_)
          replace h := z_ly h e1
          clear e1
          refine lv_imul hx hb dX11_best_81 ?_
          refine lv_iload_n hx hb dX11_best_82 rfl (lv_at hl 1 rfl) ?_
          replace h := z_if h
          obtain ⟨hne, h⟩ := h
          refine lv_idiv hx hb dX11_best_83 hne ?_
          clear hne
          refine lv_icmp_le (tgt := 90) hx hb dX11_best_84 (by decide) (fun hc => ?_) (fun hc => ?_)
          · replace h := z_t h hc
            clear hc
            refine lv_iinc (v := x4 + (1 : Int32)) (lv' := [(4, .int (x4 + (1 : Int32))), (0, .ref (b + 0)), (2, .int x2), (3, .int x3)]) hx hb dX11_best_90 hl (k := 3) rfl rfl (by decide) rfl (fun ls hl => ?_)
            refine lv_goto (tgt := 38) hx hb dX11_best_93 (by decide) ?_
            exact ih _ _ _ _ _ _ _ h hW hS (lv_sub hl [1, 2, 3, 0] rfl)
          · replace h := z_f h hc
            clear hc
            refine lv_iload hx hb dX11_best_87 (lv_at hl 3 rfl) ?_
            refine lv_istore_n (lv' := [(3, .int x4), (0, .ref (b + 0)), (2, .int x2), (4, .int x4)]) hx hb dX11_best_89 rfl hl (by decide) rfl (fun ls hl => ?_)
            refine lv_iinc (v := x4 + (1 : Int32)) (lv' := [(4, .int (x4 + (1 : Int32))), (3, .int x4), (0, .ref (b + 0)), (2, .int x2)]) hx hb dX11_best_90 hl (k := 3) rfl rfl (by decide) rfl (fun ls hl => ?_)
            refine lv_goto (tgt := 38) hx hb dX11_best_93 (by decide) ?_
            exact ih _ _ _ _ _ _ _ h hW hS (lv_sub hl [2, 3, 1, 0] rfl)
theorem f_X11_best_e (a1 : Int32) (u : zU) : f_X11_best a1 u = z_let (f_X11_isIn a1 (1 : Int32) (5 : Int32) u) (fun t1 => if t1 = true then (z_let (z_up u 0 0 (0 : Int32)) (fun u2 => if (u2 0 0) ≤ 0 then (z_b2 (f_X11_counts a1 u2) (fun r3 u4 => f_X11_best_38 5000 r3 (-1 : Int32) (0 : Int32) u4)) else (some ((0 : Int32), u2)))) else (z_let (z_up u 0 0 (1 : Int32)) (fun u8 => if (u8 0 0) ≤ 0 then (z_b2 (f_X11_counts a1 u8) (fun r9 u10 => f_X11_best_38 5000 r9 (-1 : Int32) (0 : Int32) u10)) else (some ((0 : Int32), u8))))) := rfl
set_option maxRecDepth 100000 in
set_option maxHeartbeats 4000000 in
theorem c_X11_best (l : Launch) (D : zD) (A : Nat → Prop) (b : Nat) (a1 : Int32) (u : zU) {v : Int32} {u' : zU} (h : f_X11_best a1 u = some (v, u')) : z_M l D A b gM yX11_best cX11_best 5 (some .int) 3 66 [.ref (b + 0), .int a1] u (some (.int v)) u' := by
  refine z_enter (by decide) (Nat.le_of_ble_eq_true rfl) ?_
  intro p e s m below meth c ls C0 hr hml hlk hW hS hl
  have hl : lv_has ls 5 [(0, .ref (b + 0)), (1, .int a1)] := hl
  have hx := C0.1
  have hb := C0.2.1
  rw [f_X11_best_e] at h
  refine lv_aload_n hx hb dX11_best_0 rfl (lv_at hl 0 rfl) ?_
  refine lv_iload_n hx hb dX11_best_1 rfl (lv_at hl 1 rfl) ?_
  refine lv_iconst (v := (1 : Int32)) hx hb dX11_best_2 (by decide) ?_
  refine lv_iconst (v := (5 : Int32)) hx hb dX11_best_3 (by decide) ?_
  obtain ⟨t1, hq⟩ : ∃ y, f_X11_isIn a1 (1 : Int32) (5 : Int32) u = y := ⟨_, rfl⟩
  replace h := z_lz h hq
  refine z_csi (As := [.int a1, .int (1 : Int32), .int (5 : Int32)]) C0 hml hl.1 hW hS (c_X11_isIn l D A b a1 (1 : Int32) (5 : Int32) u hq) ms_X11_45 ⟨Nat.le_of_ble_eq_true rfl, Nat.le_of_ble_eq_true rfl⟩ rfl rfl (Nat.le_of_ble_eq_true rfl) dX11_best_4 (fun H locs hW hS => ?_)
  clear hq
  refine z_ifneZ C0 (tgt := 14) dX11_best_7 (by decide) (fun hc => ?_) (fun hc => ?_)
  · replace h := z_t h hc
    clear hc
    refine lv_iconst (v := (0 : Int32)) hx hb dX11_best_14 (by decide) ?_
    refine z_puti C0 hW hS fl_X11_42 rfl rfl rfl rfl dX11_best_15 (fun H locs u2 e1 hW hS => ?_)
    replace h := z_ly h e1
    clear e1
    refine lv_aload_n hx hb dX11_best_18 rfl (lv_at hl 0 rfl) ?_
    refine z_geti C0 hW fl_X11_42 rfl rfl dX11_best_19 ?_
    refine lv_if_le (tgt := 27) hx hb dX11_best_22 (by decide) (fun hc => ?_) (fun hc => ?_)
    · replace h := z_t h hc
      clear hc
      refine lv_aload_n hx hb dX11_best_27 rfl (lv_at hl 0 rfl) ?_
      refine lv_iload_n hx hb dX11_best_28 rfl (lv_at hl 1 rfl) ?_
      replace h := z_bd2 h
      obtain ⟨r3, u4, hq, h⟩ := h
      refine z_cvi (As := [.int a1]) C0 hml hl.1 hW hS (c_X11_counts l D A b a1 u2 hq) mv_X11_324 rfl ⟨Nat.le_of_ble_eq_true rfl, Nat.le_of_ble_eq_true rfl⟩ rfl rfl (Nat.le_of_ble_eq_true rfl) dX11_best_29 (fun H locs hW hS => ?_)
      clear hq
      refine lv_istore_n (lv' := [(2, .int r3), (0, .ref (b + 0)), (1, .int a1)]) hx hb dX11_best_32 rfl hl (by decide) rfl (fun ls hl => ?_)
      refine lv_iconst (v := (-1 : Int32)) hx hb dX11_best_33 (by decide) ?_
      refine lv_istore_n (lv' := [(3, .int (-1 : Int32)), (2, .int r3), (0, .ref (b + 0)), (1, .int a1)]) hx hb dX11_best_34 rfl hl (by decide) rfl (fun ls hl => ?_)
      refine lv_iconst (v := (0 : Int32)) hx hb dX11_best_35 (by decide) ?_
      refine lv_istore (lv' := [(4, .int (0 : Int32)), (3, .int (-1 : Int32)), (2, .int r3), (0, .ref (b + 0)), (1, .int a1)]) hx hb dX11_best_36 hl (by decide) rfl (fun ls hl => ?_)
      exact l_X11_best_38 C0 hr hml hlk 5000 _ _ _ _ _ _ _ h hW hS (lv_sub hl [3, 2, 1, 0] rfl)
    · replace h := z_f h hc
      clear hc
      refine lv_iconst (v := (0 : Int32)) hx hb dX11_best_25 (by decide) ?_
      cases h
      exact z_iret C0 hr hlk hW hS dX11_best_26
  · replace h := z_ff h hc
    clear hc
    refine lv_iconst (v := (1 : Int32)) hx hb dX11_best_10 (by decide) ?_
    refine lv_goto (tgt := 15) hx hb dX11_best_11 (by decide) ?_
    refine z_puti C0 hW hS fl_X11_42 rfl rfl rfl rfl dX11_best_15 (fun H locs u8 e1 hW hS => ?_)
    replace h := z_ly h e1
    clear e1
    refine lv_aload_n hx hb dX11_best_18 rfl (lv_at hl 0 rfl) ?_
    refine z_geti C0 hW fl_X11_42 rfl rfl dX11_best_19 ?_
    refine lv_if_le (tgt := 27) hx hb dX11_best_22 (by decide) (fun hc => ?_) (fun hc => ?_)
    · replace h := z_t h hc
      clear hc
      refine lv_aload_n hx hb dX11_best_27 rfl (lv_at hl 0 rfl) ?_
      refine lv_iload_n hx hb dX11_best_28 rfl (lv_at hl 1 rfl) ?_
      replace h := z_bd2 h
      obtain ⟨r9, u10, hq, h⟩ := h
      refine z_cvi (As := [.int a1]) C0 hml hl.1 hW hS (c_X11_counts l D A b a1 u8 hq) mv_X11_324 rfl ⟨Nat.le_of_ble_eq_true rfl, Nat.le_of_ble_eq_true rfl⟩ rfl rfl (Nat.le_of_ble_eq_true rfl) dX11_best_29 (fun H locs hW hS => ?_)
      clear hq
      refine lv_istore_n (lv' := [(2, .int r9), (0, .ref (b + 0)), (1, .int a1)]) hx hb dX11_best_32 rfl hl (by decide) rfl (fun ls hl => ?_)
      refine lv_iconst (v := (-1 : Int32)) hx hb dX11_best_33 (by decide) ?_
      refine lv_istore_n (lv' := [(3, .int (-1 : Int32)), (2, .int r9), (0, .ref (b + 0)), (1, .int a1)]) hx hb dX11_best_34 rfl hl (by decide) rfl (fun ls hl => ?_)
      refine lv_iconst (v := (0 : Int32)) hx hb dX11_best_35 (by decide) ?_
      refine lv_istore (lv' := [(4, .int (0 : Int32)), (3, .int (-1 : Int32)), (2, .int r9), (0, .ref (b + 0)), (1, .int a1)]) hx hb dX11_best_36 hl (by decide) rfl (fun ls hl => ?_)
      exact l_X11_best_38 C0 hr hml hlk 5000 _ _ _ _ _ _ _ h hW hS (lv_sub hl [3, 2, 1, 0] rfl)
    · replace h := z_f h hc
      clear hc
      refine lv_iconst (v := (0 : Int32)) hx hb dX11_best_25 (by decide) ?_
      cases h
      exact z_iret C0 hr hlk hW hS dX11_best_26
def f_X11_rules_50 : Nat → Int32 → Int32 → Int32 → Int32 → zU → Option (Int32 × zU)
  | 0, _, _, _, _, _ => none
  | n + 1, x1, x3, x4, x5, u =>
    if (8 : Int32) ≤ x5 then (some (x4, u)) else ((f_X11_firstIn x5 u).bind (fun r6 => if r6 = (-1 : Int32) then (z_let (x4 + (0 : Int32)) (fun z7 => f_X11_rules_50 n x1 x3 z7 (x5 + (1 : Int32)) u)) else ((f_X11_of r6 (3 : Int32) u).bind (fun r8 => if r8 = x1 then (if z_in x5 8 = true then (z_let (u 7 (x5).toNatClampNeg) (fun z10 => if ¬ x3 = 0 then (z_let (x4 + (((10000 : Int32) * z10) / x3)) (fun z11 => f_X11_rules_50 n x1 x3 z11 (x5 + (1 : Int32)) u)) else none)) else none) else (z_let (x4 + (0 : Int32)) (fun z9 => f_X11_rules_50 n x1 x3 z9 (x5 + (1 : Int32)) u))))))
theorem f_X11_rules_50_s (n : Nat) (x1 : Int32) (x3 : Int32) (x4 : Int32) (x5 : Int32) (u : zU) : f_X11_rules_50 (n + 1) x1 x3 x4 x5 u = if (8 : Int32) ≤ x5 then (some (x4, u)) else ((f_X11_firstIn x5 u).bind (fun r6 => if r6 = (-1 : Int32) then (z_let (x4 + (0 : Int32)) (fun z7 => f_X11_rules_50 n x1 x3 z7 (x5 + (1 : Int32)) u)) else ((f_X11_of r6 (3 : Int32) u).bind (fun r8 => if r8 = x1 then (if z_in x5 8 = true then (z_let (u 7 (x5).toNatClampNeg) (fun z10 => if ¬ x3 = 0 then (z_let (x4 + (((10000 : Int32) * z10) / x3)) (fun z11 => f_X11_rules_50 n x1 x3 z11 (x5 + (1 : Int32)) u)) else none)) else none) else (z_let (x4 + (0 : Int32)) (fun z9 => f_X11_rules_50 n x1 x3 z9 (x5 + (1 : Int32)) u)))))) := rfl
def f_X11_rules (a1 : Int32) (a2 : Int32) (u : zU) : Option (Int32 × zU) :=
  z_let (f_X11_isParty a1 u) (fun t1 => if t1 = true then (z_let (f_X11_isIn a2 (1 : Int32) (5 : Int32) u) (fun t2 => if t2 = true then (z_let (z_up u 0 0 (0 : Int32)) (fun u3 => if (u3 0 0) ≤ 0 then (z_b2 (f_X11_counts a2 u3) (fun r4 u5 => f_X11_rules_50 5000 a1 r4 (0 : Int32) (0 : Int32) u5)) else (some ((0 : Int32), u3)))) else (z_let (z_up u 0 0 (2 : Int32)) (fun u12 => if (u12 0 0) ≤ 0 then (z_b2 (f_X11_counts a2 u12) (fun r13 u14 => f_X11_rules_50 5000 a1 r13 (0 : Int32) (0 : Int32) u14)) else (some ((0 : Int32), u12)))))) else (z_let (z_up u 0 0 (1 : Int32)) (fun u15 => if (u15 0 0) ≤ 0 then (z_b2 (f_X11_counts a2 u15) (fun r16 u17 => f_X11_rules_50 5000 a1 r16 (0 : Int32) (0 : Int32) u17)) else (some ((0 : Int32), u15)))))
set_option maxRecDepth 100000 in
set_option maxHeartbeats 4000000 in
theorem l_X11_rules_50 {l : Launch} {D : zD} {A : Nat → Prop} {b : Nat} {p : Program} {e : Env} {s : State} {m : MethodId} {args : Array Value} {below : List Frame} {meth : Method} {c : Code} {v : Int32} {u' : zU} (C0 : z_C p c cX11_rules s m args yX11_rules.cls D A) (hr : meth.sig.returnType = (some .int)) (hml : c.maxLocals = 7) (hlk : meth.locks = false) : ∀ (n : Nat) (x1 : Int32) (x3 : Int32) (x4 : Int32) (x5 : Int32) (u : zU) (H : Heap) (locs : List Loc) (ls : Array Slot), f_X11_rules_50 n x1 x3 x4 x5 u = some (v, u') → z_W D A b gM u H → va_S A s.heap H locs → lv_has ls 7 [(0, .ref (b + 0)), (1, .int x1), (3, .int x3), (4, .int x4), (5, .int x5)] → W p l e { frames := 2, cells := 0, slots := 0, locals := 44 } s m args below meth c H locs 0 0 (z_End D A b gM below args s (some (.int v)) u') (F0 m 50 ls []) := by
  have hx := C0.1
  have hb := C0.2.1
  intro n
  induction n with
  | zero => intro x1 x3 x4 x5 u H locs ls h hW hS hl; cases h
  | succ n ih =>
    intro x1 x3 x4 x5 u H locs ls h hW hS hl
    rw [f_X11_rules_50_s] at h
    refine lv_iload hx hb dX11_rules_50 (lv_at hl 4 rfl) ?_
    refine lv_bipush (v := (8 : Int32)) hx hb dX11_rules_52 (by decide) ?_
    refine lv_icmp_ge (tgt := 110) hx hb dX11_rules_54 (by decide) (fun hc => ?_) (fun hc => ?_)
    · replace h := z_t h hc
      clear hc
      refine lv_iload hx hb dX11_rules_110 (lv_at hl 3 rfl) ?_
      cases h
      exact z_iret C0 hr hlk hW hS dX11_rules_112
    · replace h := z_f h hc
      clear hc
      refine lv_aload_n hx hb dX11_rules_57 rfl (lv_at hl 0 rfl) ?_
      refine lv_iload hx hb dX11_rules_58 (lv_at hl 4 rfl) ?_
      replace h := z_bd h
      obtain ⟨r6, hq, h⟩ := h
      refine z_cvi (As := [.int x5]) C0 hml hl.1 hW hS (c_X11_firstIn l D A b x5 u hq) mv_X11_246 rfl ⟨Nat.le_of_ble_eq_true rfl, Nat.le_of_ble_eq_true rfl⟩ rfl rfl (Nat.le_of_ble_eq_true rfl) dX11_rules_60 (fun H locs hW hS => ?_)
      clear hq
      refine lv_istore (lv' := [(6, .int r6), (0, .ref (b + 0)), (1, .int x1), (3, .int x3), (4, .int x4), (5, .int x5)]) hx hb dX11_rules_63 hl (by decide) rfl (fun ls hl => ?_)
      refine lv_iload hx hb dX11_rules_65 (lv_at hl 4 rfl) ?_
      refine lv_iload hx hb dX11_rules_67 (lv_at hl 0 rfl) ?_
      refine lv_iconst (v := (-1 : Int32)) hx hb dX11_rules_69 (by decide) ?_
      refine lv_icmp_eq (tgt := 100) hx hb dX11_rules_70 (by decide) (fun hc => ?_) (fun hc => ?_)
      · replace h := z_t h hc
        clear hc
        refine lv_iconst (v := (0 : Int32)) hx hb dX11_rules_100 (by decide) ?_
        refine lv_iadd hx hb dX11_rules_101 ?_
        refine lv_topi (fun z7 e1 => ?_)
        replace h := z_ly h e1
        clear e1
        refine lv_istore (lv' := [(4, .int z7), (6, .int r6), (0, .ref (b + 0)), (1, .int x1), (3, .int x3), (5, .int x5)]) hx hb dX11_rules_102 hl (by decide) rfl (fun ls hl => ?_)
        refine lv_iinc (v := x5 + (1 : Int32)) (lv' := [(5, .int (x5 + (1 : Int32))), (4, .int z7), (6, .int r6), (0, .ref (b + 0)), (1, .int x1), (3, .int x3)]) hx hb dX11_rules_104 hl (k := 5) rfl rfl (by decide) rfl (fun ls hl => ?_)
        refine lv_goto (tgt := 50) hx hb dX11_rules_107 (by decide) ?_
        exact ih _ _ _ _ _ _ _ _ h hW hS (lv_sub hl [3, 4, 5, 1, 0] rfl)
      · replace h := z_f h hc
        clear hc
        refine lv_aload_n hx hb dX11_rules_73 rfl (lv_at hl 1 rfl) ?_
        refine lv_iload hx hb dX11_rules_74 (lv_at hl 0 rfl) ?_
        refine lv_iconst (v := (3 : Int32)) hx hb dX11_rules_76 (by decide) ?_
        replace h := z_bd h
        obtain ⟨r8, hq, h⟩ := h
        refine z_cvi (As := [.int r6, .int (3 : Int32)]) C0 hml hl.1 hW hS (c_X11_of l D A b r6 (3 : Int32) u hq) mv_X11_49 rfl ⟨Nat.le_of_ble_eq_true rfl, Nat.le_of_ble_eq_true rfl⟩ rfl rfl (Nat.le_of_ble_eq_true rfl) dX11_rules_77 (fun H locs hW hS => ?_)
        clear hq
        refine lv_iload_n hx hb dX11_rules_80 rfl (lv_at hl 2 rfl) ?_
        refine lv_icmp_ne (tgt := 100) hx hb dX11_rules_81 (by decide) (fun hc => ?_) (fun hc => ?_)
        · replace h := z_f h hc
          clear hc
          refine lv_iconst (v := (0 : Int32)) hx hb dX11_rules_100 (by decide) ?_
          refine lv_iadd hx hb dX11_rules_101 ?_
          refine lv_topi (fun z9 e1 => ?_)
          replace h := z_ly h e1
          clear e1
          refine lv_istore (lv' := [(4, .int z9), (6, .int r6), (0, .ref (b + 0)), (1, .int x1), (3, .int x3), (5, .int x5)]) hx hb dX11_rules_102 hl (by decide) rfl (fun ls hl => ?_)
          refine lv_iinc (v := x5 + (1 : Int32)) (lv' := [(5, .int (x5 + (1 : Int32))), (4, .int z9), (6, .int r6), (0, .ref (b + 0)), (1, .int x1), (3, .int x3)]) hx hb dX11_rules_104 hl (k := 5) rfl rfl (by decide) rfl (fun ls hl => ?_)
          refine lv_goto (tgt := 50) hx hb dX11_rules_107 (by decide) ?_
          exact ih _ _ _ _ _ _ _ _ h hW hS (lv_sub hl [3, 4, 5, 1, 0] rfl)
        · replace h := z_t h hc
          clear hc
          refine lv_sipush (v := (10000 : Int32)) hx hb dX11_rules_84 (by decide) ?_
          refine lv_aload_n hx hb dX11_rules_87 rfl (lv_at hl 1 rfl) ?_
          refine z_getr (o := 7) C0 hW fl_X11_32 rfl rfl rfl dX11_rules_88 ?_
          refine lv_iload hx hb dX11_rules_91 (lv_at hl 5 rfl) ?_
          replace h := z_if h
          obtain ⟨hin, h⟩ := h
          refine z_iald (n := 8) C0 hW rfl rfl hin rfl dX11_rules_93 ?_
          clear hin
          refine lv_topi (fun z10 e1 => ?_)
          replace h := z_ly h e1
          clear e1
          refine lv_imul hx hb dX11_rules_94 ?_
          refine lv_iload_n hx hb dX11_rules_95 rfl (lv_at hl 3 rfl) ?_
          replace h := z_if h
          obtain ⟨hne, h⟩ := h
          refine lv_idiv hx hb dX11_rules_96 hne ?_
          clear hne
          refine lv_goto (tgt := 101) hx hb dX11_rules_97 (by decide) ?_
          refine lv_iadd hx hb dX11_rules_101 ?_
          refine lv_topi (fun z11 e1 => ?_)
          replace h := z_ly h e1
          clear e1
          refine lv_istore (lv' := [(4, .int z11), (6, .int r6), (0, .ref (b + 0)), (1, .int x1), (3, .int x3), (5, .int x5)]) hx hb dX11_rules_102 hl (by decide) rfl (fun ls hl => ?_)
          refine lv_iinc (v := x5 + (1 : Int32)) (lv' := [(5, .int (x5 + (1 : Int32))), (4, .int z11), (6, .int r6), (0, .ref (b + 0)), (1, .int x1), (3, .int x3)]) hx hb dX11_rules_104 hl (k := 5) rfl rfl (by decide) rfl (fun ls hl => ?_)
          refine lv_goto (tgt := 50) hx hb dX11_rules_107 (by decide) ?_
          exact ih _ _ _ _ _ _ _ _ h hW hS (lv_sub hl [3, 4, 5, 1, 0] rfl)
theorem f_X11_rules_e (a1 : Int32) (a2 : Int32) (u : zU) : f_X11_rules a1 a2 u = z_let (f_X11_isParty a1 u) (fun t1 => if t1 = true then (z_let (f_X11_isIn a2 (1 : Int32) (5 : Int32) u) (fun t2 => if t2 = true then (z_let (z_up u 0 0 (0 : Int32)) (fun u3 => if (u3 0 0) ≤ 0 then (z_b2 (f_X11_counts a2 u3) (fun r4 u5 => f_X11_rules_50 5000 a1 r4 (0 : Int32) (0 : Int32) u5)) else (some ((0 : Int32), u3)))) else (z_let (z_up u 0 0 (2 : Int32)) (fun u12 => if (u12 0 0) ≤ 0 then (z_b2 (f_X11_counts a2 u12) (fun r13 u14 => f_X11_rules_50 5000 a1 r13 (0 : Int32) (0 : Int32) u14)) else (some ((0 : Int32), u12)))))) else (z_let (z_up u 0 0 (1 : Int32)) (fun u15 => if (u15 0 0) ≤ 0 then (z_b2 (f_X11_counts a2 u15) (fun r16 u17 => f_X11_rules_50 5000 a1 r16 (0 : Int32) (0 : Int32) u17)) else (some ((0 : Int32), u15))))) := rfl
set_option maxRecDepth 100000 in
set_option maxHeartbeats 4000000 in
theorem c_X11_rules (l : Launch) (D : zD) (A : Nat → Prop) (b : Nat) (a1 : Int32) (a2 : Int32) (u : zU) {v : Int32} {u' : zU} (h : f_X11_rules a1 a2 u = some (v, u')) : z_M l D A b gM yX11_rules cX11_rules 7 (some .int) 2 44 [.ref (b + 0), .int a1, .int a2] u (some (.int v)) u' := by
  refine z_enter (by decide) (Nat.le_of_ble_eq_true rfl) ?_
  intro p e s m below meth c ls C0 hr hml hlk hW hS hl
  have hl : lv_has ls 7 [(0, .ref (b + 0)), (1, .int a1), (2, .int a2)] := hl
  have hx := C0.1
  have hb := C0.2.1
  rw [f_X11_rules_e] at h
  refine lv_aload_n hx hb dX11_rules_0 rfl (lv_at hl 0 rfl) ?_
  refine lv_iload_n hx hb dX11_rules_1 rfl (lv_at hl 1 rfl) ?_
  obtain ⟨t1, hq⟩ : ∃ y, f_X11_isParty a1 u = y := ⟨_, rfl⟩
  replace h := z_lz h hq
  refine z_csi (As := [.int a1]) C0 hml hl.1 hW hS (c_X11_isParty l D A b a1 u hq) ms_X11_312 ⟨Nat.le_of_ble_eq_true rfl, Nat.le_of_ble_eq_true rfl⟩ rfl rfl (Nat.le_of_ble_eq_true rfl) dX11_rules_2 (fun H locs hW hS => ?_)
  clear hq
  refine z_ifneZ C0 (tgt := 12) dX11_rules_5 (by decide) (fun hc => ?_) (fun hc => ?_)
  · replace h := z_t h hc
    clear hc
    refine lv_iload_n hx hb dX11_rules_12 rfl (lv_at hl 2 rfl) ?_
    refine lv_iconst (v := (1 : Int32)) hx hb dX11_rules_13 (by decide) ?_
    refine lv_iconst (v := (5 : Int32)) hx hb dX11_rules_14 (by decide) ?_
    obtain ⟨t2, hq⟩ : ∃ y, f_X11_isIn a2 (1 : Int32) (5 : Int32) u = y := ⟨_, rfl⟩
    replace h := z_lz h hq
    refine z_csi (As := [.int a2, .int (1 : Int32), .int (5 : Int32)]) C0 hml hl.1 hW hS (c_X11_isIn l D A b a2 (1 : Int32) (5 : Int32) u hq) ms_X11_45 ⟨Nat.le_of_ble_eq_true rfl, Nat.le_of_ble_eq_true rfl⟩ rfl rfl (Nat.le_of_ble_eq_true rfl) dX11_rules_15 (fun H locs hW hS => ?_)
    clear hq
    refine z_ifneZ C0 (tgt := 25) dX11_rules_18 (by decide) (fun hc => ?_) (fun hc => ?_)
    · replace h := z_t h hc
      clear hc
      refine lv_iconst (v := (0 : Int32)) hx hb dX11_rules_25 (by decide) ?_
      refine z_puti C0 hW hS fl_X11_42 rfl rfl rfl rfl dX11_rules_26 (fun H locs u3 e1 hW hS => ?_)
      replace h := z_ly h e1
      clear e1
      refine lv_aload_n hx hb dX11_rules_29 rfl (lv_at hl 0 rfl) ?_
      refine z_geti C0 hW fl_X11_42 rfl rfl dX11_rules_30 ?_
      refine lv_if_le (tgt := 38) hx hb dX11_rules_33 (by decide) (fun hc => ?_) (fun hc => ?_)
      · replace h := z_t h hc
        clear hc
        refine lv_aload_n hx hb dX11_rules_38 rfl (lv_at hl 0 rfl) ?_
        refine lv_iload_n hx hb dX11_rules_39 rfl (lv_at hl 2 rfl) ?_
        replace h := z_bd2 h
        obtain ⟨r4, u5, hq, h⟩ := h
        refine z_cvi (As := [.int a2]) C0 hml hl.1 hW hS (c_X11_counts l D A b a2 u3 hq) mv_X11_324 rfl ⟨Nat.le_of_ble_eq_true rfl, Nat.le_of_ble_eq_true rfl⟩ rfl rfl (Nat.le_of_ble_eq_true rfl) dX11_rules_40 (fun H locs hW hS => ?_)
        clear hq
        refine lv_istore_n (lv' := [(3, .int r4), (0, .ref (b + 0)), (1, .int a1), (2, .int a2)]) hx hb dX11_rules_43 rfl hl (by decide) rfl (fun ls hl => ?_)
        refine lv_iconst (v := (0 : Int32)) hx hb dX11_rules_44 (by decide) ?_
        refine lv_istore (lv' := [(4, .int (0 : Int32)), (3, .int r4), (0, .ref (b + 0)), (1, .int a1), (2, .int a2)]) hx hb dX11_rules_45 hl (by decide) rfl (fun ls hl => ?_)
        refine lv_iconst (v := (0 : Int32)) hx hb dX11_rules_47 (by decide) ?_
        refine lv_istore (lv' := [(5, .int (0 : Int32)), (4, .int (0 : Int32)), (3, .int r4), (0, .ref (b + 0)), (1, .int a1), (2, .int a2)]) hx hb dX11_rules_48 hl (by decide) rfl (fun ls hl => ?_)
        exact l_X11_rules_50 C0 hr hml hlk 5000 _ _ _ _ _ _ _ _ h hW hS (lv_sub hl [3, 4, 2, 1, 0] rfl)
      · replace h := z_f h hc
        clear hc
        refine lv_iconst (v := (0 : Int32)) hx hb dX11_rules_36 (by decide) ?_
        cases h
        exact z_iret C0 hr hlk hW hS dX11_rules_37
    · replace h := z_ff h hc
      clear hc
      refine lv_iconst (v := (2 : Int32)) hx hb dX11_rules_21 (by decide) ?_
      refine lv_goto (tgt := 26) hx hb dX11_rules_22 (by decide) ?_
      refine z_puti C0 hW hS fl_X11_42 rfl rfl rfl rfl dX11_rules_26 (fun H locs u12 e1 hW hS => ?_)
      replace h := z_ly h e1
      clear e1
      refine lv_aload_n hx hb dX11_rules_29 rfl (lv_at hl 0 rfl) ?_
      refine z_geti C0 hW fl_X11_42 rfl rfl dX11_rules_30 ?_
      refine lv_if_le (tgt := 38) hx hb dX11_rules_33 (by decide) (fun hc => ?_) (fun hc => ?_)
      · replace h := z_t h hc
        clear hc
        refine lv_aload_n hx hb dX11_rules_38 rfl (lv_at hl 0 rfl) ?_
        refine lv_iload_n hx hb dX11_rules_39 rfl (lv_at hl 2 rfl) ?_
        replace h := z_bd2 h
        obtain ⟨r13, u14, hq, h⟩ := h
        refine z_cvi (As := [.int a2]) C0 hml hl.1 hW hS (c_X11_counts l D A b a2 u12 hq) mv_X11_324 rfl ⟨Nat.le_of_ble_eq_true rfl, Nat.le_of_ble_eq_true rfl⟩ rfl rfl (Nat.le_of_ble_eq_true rfl) dX11_rules_40 (fun H locs hW hS => ?_)
        clear hq
        refine lv_istore_n (lv' := [(3, .int r13), (0, .ref (b + 0)), (1, .int a1), (2, .int a2)]) hx hb dX11_rules_43 rfl hl (by decide) rfl (fun ls hl => ?_)
        refine lv_iconst (v := (0 : Int32)) hx hb dX11_rules_44 (by decide) ?_
        refine lv_istore (lv' := [(4, .int (0 : Int32)), (3, .int r13), (0, .ref (b + 0)), (1, .int a1), (2, .int a2)]) hx hb dX11_rules_45 hl (by decide) rfl (fun ls hl => ?_)
        refine lv_iconst (v := (0 : Int32)) hx hb dX11_rules_47 (by decide) ?_
        refine lv_istore (lv' := [(5, .int (0 : Int32)), (4, .int (0 : Int32)), (3, .int r13), (0, .ref (b + 0)), (1, .int a1), (2, .int a2)]) hx hb dX11_rules_48 hl (by decide) rfl (fun ls hl => ?_)
        exact l_X11_rules_50 C0 hr hml hlk 5000 _ _ _ _ _ _ _ _ h hW hS (lv_sub hl [3, 4, 2, 1, 0] rfl)
      · replace h := z_f h hc
        clear hc
        refine lv_iconst (v := (0 : Int32)) hx hb dX11_rules_36 (by decide) ?_
        cases h
        exact z_iret C0 hr hlk hW hS dX11_rules_37
  · replace h := z_ff h hc
    clear hc
    refine lv_iconst (v := (1 : Int32)) hx hb dX11_rules_8 (by decide) ?_
    refine lv_goto (tgt := 26) hx hb dX11_rules_9 (by decide) ?_
    refine z_puti C0 hW hS fl_X11_42 rfl rfl rfl rfl dX11_rules_26 (fun H locs u15 e1 hW hS => ?_)
    replace h := z_ly h e1
    clear e1
    refine lv_aload_n hx hb dX11_rules_29 rfl (lv_at hl 0 rfl) ?_
    refine z_geti C0 hW fl_X11_42 rfl rfl dX11_rules_30 ?_
    refine lv_if_le (tgt := 38) hx hb dX11_rules_33 (by decide) (fun hc => ?_) (fun hc => ?_)
    · replace h := z_t h hc
      clear hc
      refine lv_aload_n hx hb dX11_rules_38 rfl (lv_at hl 0 rfl) ?_
      refine lv_iload_n hx hb dX11_rules_39 rfl (lv_at hl 2 rfl) ?_
      replace h := z_bd2 h
      obtain ⟨r16, u17, hq, h⟩ := h
      refine z_cvi (As := [.int a2]) C0 hml hl.1 hW hS (c_X11_counts l D A b a2 u15 hq) mv_X11_324 rfl ⟨Nat.le_of_ble_eq_true rfl, Nat.le_of_ble_eq_true rfl⟩ rfl rfl (Nat.le_of_ble_eq_true rfl) dX11_rules_40 (fun H locs hW hS => ?_)
      clear hq
      refine lv_istore_n (lv' := [(3, .int r16), (0, .ref (b + 0)), (1, .int a1), (2, .int a2)]) hx hb dX11_rules_43 rfl hl (by decide) rfl (fun ls hl => ?_)
      refine lv_iconst (v := (0 : Int32)) hx hb dX11_rules_44 (by decide) ?_
      refine lv_istore (lv' := [(4, .int (0 : Int32)), (3, .int r16), (0, .ref (b + 0)), (1, .int a1), (2, .int a2)]) hx hb dX11_rules_45 hl (by decide) rfl (fun ls hl => ?_)
      refine lv_iconst (v := (0 : Int32)) hx hb dX11_rules_47 (by decide) ?_
      refine lv_istore (lv' := [(5, .int (0 : Int32)), (4, .int (0 : Int32)), (3, .int r16), (0, .ref (b + 0)), (1, .int a1), (2, .int a2)]) hx hb dX11_rules_48 hl (by decide) rfl (fun ls hl => ?_)
      exact l_X11_rules_50 C0 hr hml hlk 5000 _ _ _ _ _ _ _ _ h hW hS (lv_sub hl [3, 4, 2, 1, 0] rfl)
    · replace h := z_f h hc
      clear hc
      refine lv_iconst (v := (0 : Int32)) hx hb dX11_rules_36 (by decide) ?_
      cases h
      exact z_iret C0 hr hlk hW hS dX11_rules_37
def f_X11_leanBy_4 : Nat → Int32 → Int32 → Int32 → zU → Option (Int32)
  | 0, _, _, _, _ => none
  | n + 1, x1, x2, x3, u =>
    if (u 1 3) ≤ x3 then (some x2) else (z_let (f_X11_isOf x1 x3 u) (fun t1 => if t1 = true then ((f_X11_waits x3 u).bind (fun t2 => if t2 = true then (f_X11_leanBy_4 n x1 x2 (x3 + (1 : Int32)) u) else ((f_X11_of x3 (0 : Int32) u).bind (fun r3 => z_let (f_X11_placesOf r3 u) (fun r4 => z_let (f_X11_isIn r4 (1 : Int32) (3 : Int32) u) (fun t5 => if t5 = true then ((f_X11_of x3 (1 : Int32) u).bind (fun r9 => z_let (x2 + r9) (fun z10 => f_X11_leanBy_4 n x1 z10 (x3 + (1 : Int32)) u))) else (if r4 ≤ (4 : Int32) then (z_let (x2 + (0 : Int32)) (fun z6 => f_X11_leanBy_4 n x1 z6 (x3 + (1 : Int32)) u)) else ((f_X11_of x3 (1 : Int32) u).bind (fun r7 => z_let (x2 + (-r7)) (fun z8 => f_X11_leanBy_4 n x1 z8 (x3 + (1 : Int32)) u)))))))))) else (f_X11_leanBy_4 n x1 x2 (x3 + (1 : Int32)) u)))
theorem f_X11_leanBy_4_s (n : Nat) (x1 : Int32) (x2 : Int32) (x3 : Int32) (u : zU) : f_X11_leanBy_4 (n + 1) x1 x2 x3 u = if (u 1 3) ≤ x3 then (some x2) else (z_let (f_X11_isOf x1 x3 u) (fun t1 => if t1 = true then ((f_X11_waits x3 u).bind (fun t2 => if t2 = true then (f_X11_leanBy_4 n x1 x2 (x3 + (1 : Int32)) u) else ((f_X11_of x3 (0 : Int32) u).bind (fun r3 => z_let (f_X11_placesOf r3 u) (fun r4 => z_let (f_X11_isIn r4 (1 : Int32) (3 : Int32) u) (fun t5 => if t5 = true then ((f_X11_of x3 (1 : Int32) u).bind (fun r9 => z_let (x2 + r9) (fun z10 => f_X11_leanBy_4 n x1 z10 (x3 + (1 : Int32)) u))) else (if r4 ≤ (4 : Int32) then (z_let (x2 + (0 : Int32)) (fun z6 => f_X11_leanBy_4 n x1 z6 (x3 + (1 : Int32)) u)) else ((f_X11_of x3 (1 : Int32) u).bind (fun r7 => z_let (x2 + (-r7)) (fun z8 => f_X11_leanBy_4 n x1 z8 (x3 + (1 : Int32)) u)))))))))) else (f_X11_leanBy_4 n x1 x2 (x3 + (1 : Int32)) u))) := rfl
def f_X11_leanBy (a1 : Int32) (u : zU) : Option (Int32) :=
  f_X11_leanBy_4 5000 a1 (0 : Int32) (0 : Int32) u
set_option maxRecDepth 100000 in
set_option maxHeartbeats 4000000 in
theorem l_X11_leanBy_4 {l : Launch} {D : zD} {A : Nat → Prop} {b : Nat} {p : Program} {e : Env} {s : State} {m : MethodId} {args : Array Value} {below : List Frame} {meth : Method} {c : Code} {v : Int32} {u : zU} (C0 : z_C p c cX11_leanBy s m args yX11_leanBy.cls D A) (hr : meth.sig.returnType = (some .int)) (hml : c.maxLocals = 5) (hlk : meth.locks = false) : ∀ (n : Nat) (x1 : Int32) (x2 : Int32) (x3 : Int32) (H : Heap) (locs : List Loc) (ls : Array Slot), f_X11_leanBy_4 n x1 x2 x3 u = some v → z_W D A b gM u H → va_S A s.heap H locs → lv_has ls 5 [(0, .ref (b + 0)), (1, .int x1), (2, .int x2), (3, .int x3)] → W p l e { frames := 2, cells := 0, slots := 0, locals := 43 } s m args below meth c H locs 0 0 (z_End D A b gM below args s (some (.int v)) u) (F0 m 4 ls []) := by
  have hx := C0.1
  have hb := C0.2.1
  intro n
  induction n with
  | zero => intro x1 x2 x3 H locs ls h hW hS hl; cases h
  | succ n ih =>
    intro x1 x2 x3 H locs ls h hW hS hl
    rw [f_X11_leanBy_4_s] at h
    refine lv_iload_n hx hb dX11_leanBy_4 rfl (lv_at hl 3 rfl) ?_
    refine lv_aload_n hx hb dX11_leanBy_5 rfl (lv_at hl 0 rfl) ?_
    refine z_getr (o := 1) C0 hW fl_X11_7 rfl rfl rfl dX11_leanBy_6 ?_
    refine lv_iconst (v := (3 : Int32)) hx hb dX11_leanBy_9 (by decide) ?_
    refine z_iald (k := 3) (n := 705) C0 hW rfl rfl (by decide) (by decide) dX11_leanBy_10 ?_
    refine lv_icmp_ge (tgt := 90) hx hb dX11_leanBy_11 (by decide) (fun hc => ?_) (fun hc => ?_)
    · replace h := z_t h hc
      clear hc
      refine lv_iload_n hx hb dX11_leanBy_90 rfl (lv_at hl 2 rfl) ?_
      cases h
      exact z_iret C0 hr hlk hW hS dX11_leanBy_91
    · replace h := z_f h hc
      clear hc
      refine lv_iload_n hx hb dX11_leanBy_14 rfl (lv_at hl 1 rfl) ?_
      refine lv_iload_n hx hb dX11_leanBy_15 rfl (lv_at hl 3 rfl) ?_
      obtain ⟨t1, hq⟩ : ∃ y, f_X11_isOf x1 x3 u = y := ⟨_, rfl⟩
      replace h := z_lz h hq
      refine z_csi (As := [.int x1, .int x3]) C0 hml hl.1 hW hS (c_X11_isOf l D A b x1 x3 u hq) ms_X11_262 ⟨Nat.le_of_ble_eq_true rfl, Nat.le_of_ble_eq_true rfl⟩ rfl rfl (Nat.le_of_ble_eq_true rfl) dX11_leanBy_16 (fun H locs hW hS => ?_)
      clear hq
      refine z_ifeqZ C0 (tgt := 84) dX11_leanBy_19 (by decide) (fun hc => ?_) (fun hc => ?_)
      · replace h := z_ff h hc
        clear hc
        refine lv_iinc (v := x3 + (1 : Int32)) (lv' := [(3, .int (x3 + (1 : Int32))), (0, .ref (b + 0)), (1, .int x1), (2, .int x2)]) hx hb dX11_leanBy_84 hl (k := 3) rfl rfl (by decide) rfl (fun ls hl => ?_)
        refine lv_goto (tgt := 4) hx hb dX11_leanBy_87 (by decide) ?_
        exact ih _ _ _ _ _ _ h hW hS (lv_sub hl [1, 2, 3, 0] rfl)
      · replace h := z_t h hc
        clear hc
        refine lv_aload_n hx hb dX11_leanBy_22 rfl (lv_at hl 0 rfl) ?_
        refine lv_iload_n hx hb dX11_leanBy_23 rfl (lv_at hl 3 rfl) ?_
        replace h := z_bd h
        obtain ⟨t2, hq, h⟩ := h
        refine z_cvi (As := [.int x3]) C0 hml hl.1 hW hS (c_X11_waits l D A b x3 u hq) mv_X11_255 rfl ⟨Nat.le_of_ble_eq_true rfl, Nat.le_of_ble_eq_true rfl⟩ rfl rfl (Nat.le_of_ble_eq_true rfl) dX11_leanBy_24 (fun H locs hW hS => ?_)
        clear hq
        refine z_ifeqZ C0 (tgt := 33) dX11_leanBy_27 (by decide) (fun hc => ?_) (fun hc => ?_)
        · replace h := z_ff h hc
          clear hc
          refine lv_aload_n hx hb dX11_leanBy_33 rfl (lv_at hl 0 rfl) ?_
          refine lv_aload_n hx hb dX11_leanBy_34 rfl (lv_at hl 0 rfl) ?_
          refine lv_iload_n hx hb dX11_leanBy_35 rfl (lv_at hl 3 rfl) ?_
          refine lv_iconst (v := (0 : Int32)) hx hb dX11_leanBy_36 (by decide) ?_
          replace h := z_bd h
          obtain ⟨r3, hq, h⟩ := h
          refine z_cvi (As := [.int x3, .int (0 : Int32)]) C0 hml hl.1 hW hS (c_X11_of l D A b x3 (0 : Int32) u hq) mv_X11_49 rfl ⟨Nat.le_of_ble_eq_true rfl, Nat.le_of_ble_eq_true rfl⟩ rfl rfl (Nat.le_of_ble_eq_true rfl) dX11_leanBy_37 (fun H locs hW hS => ?_)
          clear hq
          obtain ⟨r4, hq⟩ : ∃ y, f_X11_placesOf r3 u = y := ⟨_, rfl⟩
          replace h := z_lz h hq
          refine z_cvi (As := [.int r3]) C0 hml hl.1 hW hS (c_X11_placesOf l D A b r3 u hq) mv_X11_60 rfl ⟨Nat.le_of_ble_eq_true rfl, Nat.le_of_ble_eq_true rfl⟩ rfl rfl (Nat.le_of_ble_eq_true rfl) dX11_leanBy_40 (fun H locs hW hS => ?_)
          clear hq
          refine lv_istore (lv' := [(4, .int r4), (0, .ref (b + 0)), (1, .int x1), (2, .int x2), (3, .int x3)]) hx hb dX11_leanBy_43 hl (by decide) rfl (fun ls hl => ?_)
          refine lv_iload_n hx hb dX11_leanBy_45 rfl (lv_at hl 3 rfl) ?_
          refine lv_iload hx hb dX11_leanBy_46 (lv_at hl 0 rfl) ?_
          refine lv_iconst (v := (1 : Int32)) hx hb dX11_leanBy_48 (by decide) ?_
          refine lv_iconst (v := (3 : Int32)) hx hb dX11_leanBy_49 (by decide) ?_
          obtain ⟨t5, hq⟩ : ∃ y, f_X11_isIn r4 (1 : Int32) (3 : Int32) u = y := ⟨_, rfl⟩
          replace h := z_lz h hq
          refine z_csi (As := [.int r4, .int (1 : Int32), .int (3 : Int32)]) C0 hml hl.1 hW hS (c_X11_isIn l D A b r4 (1 : Int32) (3 : Int32) u hq) ms_X11_45 ⟨Nat.le_of_ble_eq_true rfl, Nat.le_of_ble_eq_true rfl⟩ rfl rfl (Nat.le_of_ble_eq_true rfl) dX11_leanBy_50 (fun H locs hW hS => ?_)
          clear hq
          refine z_ifeqZ C0 (tgt := 65) dX11_leanBy_53 (by decide) (fun hc => ?_) (fun hc => ?_)
          · replace h := z_ff h hc
            clear hc
            refine lv_iload hx hb dX11_leanBy_65 (lv_at hl 0 rfl) ?_
            refine lv_iconst (v := (4 : Int32)) hx hb dX11_leanBy_67 (by decide) ?_
            refine lv_icmp_le (tgt := 81) hx hb dX11_leanBy_68 (by decide) (fun hc => ?_) (fun hc => ?_)
            · replace h := z_t h hc
              clear hc
              refine lv_iconst (v := (0 : Int32)) hx hb dX11_leanBy_81 (by decide) ?_
              refine lv_iadd hx hb dX11_leanBy_82 ?_
              refine lv_topi (fun z6 e1 => ?_)
              replace h := z_ly h e1
              clear e1
              refine lv_istore_n (lv' := [(2, .int z6), (4, .int r4), (0, .ref (b + 0)), (1, .int x1), (3, .int x3)]) hx hb dX11_leanBy_83 rfl hl (by decide) rfl (fun ls hl => ?_)
              refine lv_iinc (v := x3 + (1 : Int32)) (lv' := [(3, .int (x3 + (1 : Int32))), (2, .int z6), (4, .int r4), (0, .ref (b + 0)), (1, .int x1)]) hx hb dX11_leanBy_84 hl (k := 4) rfl rfl (by decide) rfl (fun ls hl => ?_)
              refine lv_goto (tgt := 4) hx hb dX11_leanBy_87 (by decide) ?_
              exact ih _ _ _ _ _ _ h hW hS (lv_sub hl [3, 4, 1, 0] rfl)
            · replace h := z_f h hc
              clear hc
              refine lv_aload_n hx hb dX11_leanBy_71 rfl (lv_at hl 1 rfl) ?_
              refine lv_iload_n hx hb dX11_leanBy_72 rfl (lv_at hl 4 rfl) ?_
              refine lv_iconst (v := (1 : Int32)) hx hb dX11_leanBy_73 (by decide) ?_
              replace h := z_bd h
              obtain ⟨r7, hq, h⟩ := h
              refine z_cvi (As := [.int x3, .int (1 : Int32)]) C0 hml hl.1 hW hS (c_X11_of l D A b x3 (1 : Int32) u hq) mv_X11_49 rfl ⟨Nat.le_of_ble_eq_true rfl, Nat.le_of_ble_eq_true rfl⟩ rfl rfl (Nat.le_of_ble_eq_true rfl) dX11_leanBy_74 (fun H locs hW hS => ?_)
              clear hq
              refine lv_ineg hx hb dX11_leanBy_77 ?_
              refine lv_goto (tgt := 82) hx hb dX11_leanBy_78 (by decide) ?_
              refine lv_iadd hx hb dX11_leanBy_82 ?_
              refine lv_topi (fun z8 e1 => ?_)
              replace h := z_ly h e1
              clear e1
              refine lv_istore_n (lv' := [(2, .int z8), (4, .int r4), (0, .ref (b + 0)), (1, .int x1), (3, .int x3)]) hx hb dX11_leanBy_83 rfl hl (by decide) rfl (fun ls hl => ?_)
              refine lv_iinc (v := x3 + (1 : Int32)) (lv' := [(3, .int (x3 + (1 : Int32))), (2, .int z8), (4, .int r4), (0, .ref (b + 0)), (1, .int x1)]) hx hb dX11_leanBy_84 hl (k := 4) rfl rfl (by decide) rfl (fun ls hl => ?_)
              refine lv_goto (tgt := 4) hx hb dX11_leanBy_87 (by decide) ?_
              exact ih _ _ _ _ _ _ h hW hS (lv_sub hl [3, 4, 1, 0] rfl)
          · replace h := z_t h hc
            clear hc
            refine lv_aload_n hx hb dX11_leanBy_56 rfl (lv_at hl 1 rfl) ?_
            refine lv_iload_n hx hb dX11_leanBy_57 rfl (lv_at hl 4 rfl) ?_
            refine lv_iconst (v := (1 : Int32)) hx hb dX11_leanBy_58 (by decide) ?_
            replace h := z_bd h
            obtain ⟨r9, hq, h⟩ := h
            refine z_cvi (As := [.int x3, .int (1 : Int32)]) C0 hml hl.1 hW hS (c_X11_of l D A b x3 (1 : Int32) u hq) mv_X11_49 rfl ⟨Nat.le_of_ble_eq_true rfl, Nat.le_of_ble_eq_true rfl⟩ rfl rfl (Nat.le_of_ble_eq_true rfl) dX11_leanBy_59 (fun H locs hW hS => ?_)
            clear hq
            refine lv_goto (tgt := 82) hx hb dX11_leanBy_62 (by decide) ?_
            refine lv_iadd hx hb dX11_leanBy_82 ?_
            refine lv_topi (fun z10 e1 => ?_)
            replace h := z_ly h e1
            clear e1
            refine lv_istore_n (lv' := [(2, .int z10), (4, .int r4), (0, .ref (b + 0)), (1, .int x1), (3, .int x3)]) hx hb dX11_leanBy_83 rfl hl (by decide) rfl (fun ls hl => ?_)
            refine lv_iinc (v := x3 + (1 : Int32)) (lv' := [(3, .int (x3 + (1 : Int32))), (2, .int z10), (4, .int r4), (0, .ref (b + 0)), (1, .int x1)]) hx hb dX11_leanBy_84 hl (k := 4) rfl rfl (by decide) rfl (fun ls hl => ?_)
            refine lv_goto (tgt := 4) hx hb dX11_leanBy_87 (by decide) ?_
            exact ih _ _ _ _ _ _ h hW hS (lv_sub hl [3, 4, 1, 0] rfl)
        · replace h := z_t h hc
          clear hc
          refine lv_goto (tgt := 84) hx hb dX11_leanBy_30 (by decide) ?_
          refine lv_iinc (v := x3 + (1 : Int32)) (lv' := [(3, .int (x3 + (1 : Int32))), (0, .ref (b + 0)), (1, .int x1), (2, .int x2)]) hx hb dX11_leanBy_84 hl (k := 3) rfl rfl (by decide) rfl (fun ls hl => ?_)
          refine lv_goto (tgt := 4) hx hb dX11_leanBy_87 (by decide) ?_
          exact ih _ _ _ _ _ _ h hW hS (lv_sub hl [1, 2, 3, 0] rfl)
theorem f_X11_leanBy_e (a1 : Int32) (u : zU) : f_X11_leanBy a1 u = f_X11_leanBy_4 5000 a1 (0 : Int32) (0 : Int32) u := rfl
set_option maxRecDepth 100000 in
set_option maxHeartbeats 4000000 in
theorem c_X11_leanBy (l : Launch) (D : zD) (A : Nat → Prop) (b : Nat) (a1 : Int32) (u : zU) {v : Int32} (h : f_X11_leanBy a1 u = some v) : z_M l D A b gM yX11_leanBy cX11_leanBy 5 (some .int) 2 43 [.ref (b + 0), .int a1] u (some (.int v)) u := by
  refine z_enter (by decide) (Nat.le_of_ble_eq_true rfl) ?_
  intro p e s m below meth c ls C0 hr hml hlk hW hS hl
  have hl : lv_has ls 5 [(0, .ref (b + 0)), (1, .int a1)] := hl
  have hx := C0.1
  have hb := C0.2.1
  rw [f_X11_leanBy_e] at h
  refine lv_iconst (v := (0 : Int32)) hx hb dX11_leanBy_0 (by decide) ?_
  refine lv_istore_n (lv' := [(2, .int (0 : Int32)), (0, .ref (b + 0)), (1, .int a1)]) hx hb dX11_leanBy_1 rfl hl (by decide) rfl (fun ls hl => ?_)
  refine lv_iconst (v := (0 : Int32)) hx hb dX11_leanBy_2 (by decide) ?_
  refine lv_istore_n (lv' := [(3, .int (0 : Int32)), (2, .int (0 : Int32)), (0, .ref (b + 0)), (1, .int a1)]) hx hb dX11_leanBy_3 rfl hl (by decide) rfl (fun ls hl => ?_)
  exact l_X11_leanBy_4 C0 hr hml hlk 5000 _ _ _ _ _ _ h hW hS (lv_sub hl [2, 3, 1, 0] rfl)
def f_X11_lean  (u : zU) : Option (Int32 × zU) :=
  z_let (z_up u 0 0 (0 : Int32)) (fun u1 => (f_X11_leanBy (255 : Int32) u1).bind (fun r2 => some (r2, u1)))
theorem f_X11_lean_e  (u : zU) : f_X11_lean u = z_let (z_up u 0 0 (0 : Int32)) (fun u1 => (f_X11_leanBy (255 : Int32) u1).bind (fun r2 => some (r2, u1))) := rfl
set_option maxRecDepth 100000 in
set_option maxHeartbeats 4000000 in
theorem c_X11_lean (l : Launch) (D : zD) (A : Nat → Prop) (b : Nat)  (u : zU) {v : Int32} {u' : zU} (h : f_X11_lean u = some (v, u')) : z_M l D A b gM yX11_lean cX11_lean 1 (some .int) 3 67 [.ref (b + 0)] u (some (.int v)) u' := by
  refine z_enter (by decide) (Nat.le_of_ble_eq_true rfl) ?_
  intro p e s m below meth c ls C0 hr hml hlk hW hS hl
  have hl : lv_has ls 1 [(0, .ref (b + 0))] := hl
  have hx := C0.1
  have hb := C0.2.1
  rw [f_X11_lean_e] at h
  refine lv_aload_n hx hb dX11_lean_0 rfl (lv_at hl 0 rfl) ?_
  refine lv_iconst (v := (0 : Int32)) hx hb dX11_lean_1 (by decide) ?_
  refine z_puti C0 hW hS fl_X11_42 rfl rfl rfl rfl dX11_lean_2 (fun H locs u1 e1 hW hS => ?_)
  replace h := z_ly h e1
  clear e1
  refine lv_aload_n hx hb dX11_lean_5 rfl (lv_at hl 0 rfl) ?_
  refine lv_sipush (v := (255 : Int32)) hx hb dX11_lean_6 (by decide) ?_
  replace h := z_bd h
  obtain ⟨r2, hq, h⟩ := h
  refine z_cvi (As := [.int (255 : Int32)]) C0 hml hl.1 hW hS (c_X11_leanBy l D A b (255 : Int32) u1 hq) mv_X11_327 rfl ⟨Nat.le_of_ble_eq_true rfl, Nat.le_of_ble_eq_true rfl⟩ rfl rfl (Nat.le_of_ble_eq_true rfl) dX11_lean_9 (fun H locs hW hS => ?_)
  clear hq
  cases h
  exact z_iret C0 hr hlk hW hS dX11_lean_12
def f_X11_seat_43 : Nat → Int32 → Int32 → Int32 → Int32 → Int32 → zU → Option (Int32 × zU)
  | 0, _, _, _, _, _, _ => none
  | n + 1, x1, x2, x3, x4, x5, u =>
    if (8 : Int32) ≤ x5 then (some (x3, u)) else (if x5 = x2 then ((f_X11_put x1 (0 : Int32) x5 u).bind (fun u4 => (f_X11_leanBy (255 : Int32) u4).bind (fun r5 => (f_X11_put x1 (0 : Int32) x2 u4).bind (fun u6 => if 0 ≤ r5 then (if r5 < x4 then (f_X11_seat_43 n x1 x2 x5 r5 (x5 + (1 : Int32)) u6) else (f_X11_seat_43 n x1 x2 x3 x4 (x5 + (1 : Int32)) u6)) else (z_let (-r5) (fun z7 => if z7 < x4 then (f_X11_seat_43 n x1 x2 x5 z7 (x5 + (1 : Int32)) u6) else (f_X11_seat_43 n x1 x2 x3 x4 (x5 + (1 : Int32)) u6))))))) else ((f_X11_hasRoom x5 u).bind (fun t8 => if t8 = true then ((f_X11_put x1 (0 : Int32) x5 u).bind (fun u9 => (f_X11_leanBy (255 : Int32) u9).bind (fun r10 => (f_X11_put x1 (0 : Int32) x2 u9).bind (fun u11 => if 0 ≤ r10 then (if r10 < x4 then (f_X11_seat_43 n x1 x2 x5 r10 (x5 + (1 : Int32)) u11) else (f_X11_seat_43 n x1 x2 x3 x4 (x5 + (1 : Int32)) u11)) else (z_let (-r10) (fun z12 => if z12 < x4 then (f_X11_seat_43 n x1 x2 x5 z12 (x5 + (1 : Int32)) u11) else (f_X11_seat_43 n x1 x2 x3 x4 (x5 + (1 : Int32)) u11))))))) else (f_X11_seat_43 n x1 x2 x3 x4 (x5 + (1 : Int32)) u))))
theorem f_X11_seat_43_s (n : Nat) (x1 : Int32) (x2 : Int32) (x3 : Int32) (x4 : Int32) (x5 : Int32) (u : zU) : f_X11_seat_43 (n + 1) x1 x2 x3 x4 x5 u = if (8 : Int32) ≤ x5 then (some (x3, u)) else (if x5 = x2 then ((f_X11_put x1 (0 : Int32) x5 u).bind (fun u4 => (f_X11_leanBy (255 : Int32) u4).bind (fun r5 => (f_X11_put x1 (0 : Int32) x2 u4).bind (fun u6 => if 0 ≤ r5 then (if r5 < x4 then (f_X11_seat_43 n x1 x2 x5 r5 (x5 + (1 : Int32)) u6) else (f_X11_seat_43 n x1 x2 x3 x4 (x5 + (1 : Int32)) u6)) else (z_let (-r5) (fun z7 => if z7 < x4 then (f_X11_seat_43 n x1 x2 x5 z7 (x5 + (1 : Int32)) u6) else (f_X11_seat_43 n x1 x2 x3 x4 (x5 + (1 : Int32)) u6))))))) else ((f_X11_hasRoom x5 u).bind (fun t8 => if t8 = true then ((f_X11_put x1 (0 : Int32) x5 u).bind (fun u9 => (f_X11_leanBy (255 : Int32) u9).bind (fun r10 => (f_X11_put x1 (0 : Int32) x2 u9).bind (fun u11 => if 0 ≤ r10 then (if r10 < x4 then (f_X11_seat_43 n x1 x2 x5 r10 (x5 + (1 : Int32)) u11) else (f_X11_seat_43 n x1 x2 x3 x4 (x5 + (1 : Int32)) u11)) else (z_let (-r10) (fun z12 => if z12 < x4 then (f_X11_seat_43 n x1 x2 x5 z12 (x5 + (1 : Int32)) u11) else (f_X11_seat_43 n x1 x2 x3 x4 (x5 + (1 : Int32)) u11))))))) else (f_X11_seat_43 n x1 x2 x3 x4 (x5 + (1 : Int32)) u)))) := rfl
def f_X11_seat (a1 : Int32) (u : zU) : Option (Int32 × zU) :=
  z_let (f_X11_isRider a1 u) (fun t1 => if t1 = true then (z_let (z_up u 0 0 (0 : Int32)) (fun u2 => if (u2 0 0) ≤ 0 then ((f_X11_of a1 (0 : Int32) u2).bind (fun r3 => f_X11_seat_43 5000 a1 r3 (-1 : Int32) (2000000000 : Int32) (0 : Int32) u2)) else (some ((0 : Int32), u2)))) else (z_let (z_up u 0 0 (1 : Int32)) (fun u13 => if (u13 0 0) ≤ 0 then ((f_X11_of a1 (0 : Int32) u13).bind (fun r14 => f_X11_seat_43 5000 a1 r14 (-1 : Int32) (2000000000 : Int32) (0 : Int32) u13)) else (some ((0 : Int32), u13)))))
set_option maxRecDepth 100000 in
set_option maxHeartbeats 4000000 in
theorem l_X11_seat_43 {l : Launch} {D : zD} {A : Nat → Prop} {b : Nat} {p : Program} {e : Env} {s : State} {m : MethodId} {args : Array Value} {below : List Frame} {meth : Method} {c : Code} {v : Int32} {u' : zU} (C0 : z_C p c cX11_seat s m args yX11_seat.cls D A) (hr : meth.sig.returnType = (some .int)) (hml : c.maxLocals = 7) (hlk : meth.locks = false) : ∀ (n : Nat) (x1 : Int32) (x2 : Int32) (x3 : Int32) (x4 : Int32) (x5 : Int32) (u : zU) (H : Heap) (locs : List Loc) (ls : Array Slot), f_X11_seat_43 n x1 x2 x3 x4 x5 u = some (v, u') → z_W D A b gM u H → va_S A s.heap H locs → lv_has ls 7 [(0, .ref (b + 0)), (1, .int x1), (2, .int x2), (3, .int x3), (4, .int x4), (5, .int x5)] → W p l e { frames := 3, cells := 0, slots := 0, locals := 67 } s m args below meth c H locs 0 0 (z_End D A b gM below args s (some (.int v)) u') (F0 m 43 ls []) := by
  have hx := C0.1
  have hb := C0.2.1
  intro n
  induction n with
  | zero => intro x1 x2 x3 x4 x5 u H locs ls h hW hS hl; cases h
  | succ n ih =>
    intro x1 x2 x3 x4 x5 u H locs ls h hW hS hl
    rw [f_X11_seat_43_s] at h
    refine lv_iload hx hb dX11_seat_43 (lv_at hl 5 rfl) ?_
    refine lv_bipush (v := (8 : Int32)) hx hb dX11_seat_45 (by decide) ?_
    refine lv_icmp_ge (tgt := 130) hx hb dX11_seat_47 (by decide) (fun hc => ?_) (fun hc => ?_)
    · replace h := z_t h hc
      clear hc
      refine lv_iload_n hx hb dX11_seat_130 rfl (lv_at hl 3 rfl) ?_
      cases h
      exact z_iret C0 hr hlk hW hS dX11_seat_131
    · replace h := z_f h hc
      clear hc
      refine lv_iload hx hb dX11_seat_50 (lv_at hl 5 rfl) ?_
      refine lv_iload_n hx hb dX11_seat_52 rfl (lv_at hl 2 rfl) ?_
      refine lv_icmp_eq (tgt := 68) hx hb dX11_seat_53 (by decide) (fun hc => ?_) (fun hc => ?_)
      · replace h := z_t h hc
        clear hc
        refine lv_aload_n hx hb dX11_seat_68 rfl (lv_at hl 0 rfl) ?_
        refine lv_iload_n hx hb dX11_seat_69 rfl (lv_at hl 1 rfl) ?_
        refine lv_iconst (v := (0 : Int32)) hx hb dX11_seat_70 (by decide) ?_
        refine lv_iload hx hb dX11_seat_71 (lv_at hl 5 rfl) ?_
        replace h := z_bd h
        obtain ⟨u4, hq, h⟩ := h
        refine z_cvv (As := [.int x1, .int (0 : Int32), .int x5]) C0 hml hl.1 hW hS (c_X11_put l D A b x1 (0 : Int32) x5 u hq) mv_X11_66 rfl ⟨Nat.le_of_ble_eq_true rfl, Nat.le_of_ble_eq_true rfl⟩ rfl rfl (Nat.le_of_ble_eq_true rfl) dX11_seat_73 (fun H locs hW hS => ?_)
        clear hq
        refine lv_aload_n hx hb dX11_seat_76 rfl (lv_at hl 0 rfl) ?_
        refine lv_sipush (v := (255 : Int32)) hx hb dX11_seat_77 (by decide) ?_
        replace h := z_bd h
        obtain ⟨r5, hq, h⟩ := h
        refine z_cvi (As := [.int (255 : Int32)]) C0 hml hl.1 hW hS (c_X11_leanBy l D A b (255 : Int32) u4 hq) mv_X11_327 rfl ⟨Nat.le_of_ble_eq_true rfl, Nat.le_of_ble_eq_true rfl⟩ rfl rfl (Nat.le_of_ble_eq_true rfl) dX11_seat_80 (fun H locs hW hS => ?_)
        clear hq
        refine lv_istore (lv' := [(6, .int r5), (0, .ref (b + 0)), (1, .int x1), (2, .int x2), (3, .int x3), (4, .int x4), (5, .int x5)]) hx hb dX11_seat_83 hl (by decide) rfl (fun ls hl => ?_)
        refine lv_aload_n hx hb dX11_seat_85 rfl (lv_at hl 1 rfl) ?_
        refine lv_iload_n hx hb dX11_seat_86 rfl (lv_at hl 2 rfl) ?_
        refine lv_iconst (v := (0 : Int32)) hx hb dX11_seat_87 (by decide) ?_
        refine lv_iload_n hx hb dX11_seat_88 rfl (lv_at hl 3 rfl) ?_
        replace h := z_bd h
        obtain ⟨u6, hq, h⟩ := h
        refine z_cvv (As := [.int x1, .int (0 : Int32), .int x2]) C0 hml hl.1 hW hS (c_X11_put l D A b x1 (0 : Int32) x2 u4 hq) mv_X11_66 rfl ⟨Nat.le_of_ble_eq_true rfl, Nat.le_of_ble_eq_true rfl⟩ rfl rfl (Nat.le_of_ble_eq_true rfl) dX11_seat_89 (fun H locs hW hS => ?_)
        clear hq
        refine lv_iload hx hb dX11_seat_92 (lv_at hl 0 rfl) ?_
        refine lv_if_ge (tgt := 103) hx hb dX11_seat_94 (by decide) (fun hc => ?_) (fun hc => ?_)
        · replace h := z_t h hc
          clear hc
          refine lv_iload hx hb dX11_seat_103 (lv_at hl 0 rfl) ?_
          refine lv_istore (lv' := [(6, .int r5), (0, .ref (b + 0)), (1, .int x1), (2, .int x2), (3, .int x3), (4, .int x4), (5, .int x5)]) hx hb dX11_seat_105 hl (by decide) rfl (fun ls hl => ?_)
          refine lv_iload hx hb dX11_seat_107 (lv_at hl 0 rfl) ?_
          refine lv_iload hx hb dX11_seat_109 (lv_at hl 5 rfl) ?_
          refine lv_icmp_lt (tgt := 117) hx hb dX11_seat_111 (by decide) (fun hc => ?_) (fun hc => ?_)
          · replace h := z_t h hc
            clear hc
            refine lv_iload hx hb dX11_seat_117 (lv_at hl 0 rfl) ?_
            refine lv_istore (lv' := [(4, .int r5), (6, .int r5), (0, .ref (b + 0)), (1, .int x1), (2, .int x2), (3, .int x3), (5, .int x5)]) hx hb dX11_seat_119 hl (by decide) rfl (fun ls hl => ?_)
            refine lv_iload hx hb dX11_seat_121 (lv_at hl 6 rfl) ?_
            refine lv_istore_n (lv' := [(3, .int x5), (4, .int r5), (6, .int r5), (0, .ref (b + 0)), (1, .int x1), (2, .int x2), (5, .int x5)]) hx hb dX11_seat_123 rfl hl (by decide) rfl (fun ls hl => ?_)
            refine lv_iinc (v := x5 + (1 : Int32)) (lv' := [(5, .int (x5 + (1 : Int32))), (3, .int x5), (4, .int r5), (6, .int r5), (0, .ref (b + 0)), (1, .int x1), (2, .int x2)]) hx hb dX11_seat_124 hl (k := 6) rfl rfl (by decide) rfl (fun ls hl => ?_)
            refine lv_goto (tgt := 43) hx hb dX11_seat_127 (by decide) ?_
            exact ih _ _ _ _ _ _ _ _ _ h hW hS (lv_sub hl [4, 5, 6, 1, 2, 0] rfl)
          · replace h := z_f h hc
            clear hc
            refine lv_goto (tgt := 124) hx hb dX11_seat_114 (by decide) ?_
            refine lv_iinc (v := x5 + (1 : Int32)) (lv' := [(5, .int (x5 + (1 : Int32))), (6, .int r5), (0, .ref (b + 0)), (1, .int x1), (2, .int x2), (3, .int x3), (4, .int x4)]) hx hb dX11_seat_124 hl (k := 6) rfl rfl (by decide) rfl (fun ls hl => ?_)
            refine lv_goto (tgt := 43) hx hb dX11_seat_127 (by decide) ?_
            exact ih _ _ _ _ _ _ _ _ _ h hW hS (lv_sub hl [2, 3, 4, 5, 6, 0] rfl)
        · replace h := z_f h hc
          clear hc
          refine lv_iload hx hb dX11_seat_97 (lv_at hl 0 rfl) ?_
          refine lv_ineg hx hb dX11_seat_99 ?_
          refine lv_goto (tgt := 105) hx hb dX11_seat_100 (by decide) ?_
          refine lv_topi (fun z7 e1 => ?_)
          replace h := z_ly h e1
          clear e1
          refine lv_istore (lv' := [(6, .int z7), (0, .ref (b + 0)), (1, .int x1), (2, .int x2), (3, .int x3), (4, .int x4), (5, .int x5)]) hx hb dX11_seat_105 hl (by decide) rfl (fun ls hl => ?_)
          refine lv_iload hx hb dX11_seat_107 (lv_at hl 0 rfl) ?_
          refine lv_iload hx hb dX11_seat_109 (lv_at hl 5 rfl) ?_
          refine lv_icmp_lt (tgt := 117) hx hb dX11_seat_111 (by decide) (fun hc => ?_) (fun hc => ?_)
          · replace h := z_t h hc
            clear hc
            refine lv_iload hx hb dX11_seat_117 (lv_at hl 0 rfl) ?_
            refine lv_istore (lv' := [(4, .int z7), (6, .int z7), (0, .ref (b + 0)), (1, .int x1), (2, .int x2), (3, .int x3), (5, .int x5)]) hx hb dX11_seat_119 hl (by decide) rfl (fun ls hl => ?_)
            refine lv_iload hx hb dX11_seat_121 (lv_at hl 6 rfl) ?_
            refine lv_istore_n (lv' := [(3, .int x5), (4, .int z7), (6, .int z7), (0, .ref (b + 0)), (1, .int x1), (2, .int x2), (5, .int x5)]) hx hb dX11_seat_123 rfl hl (by decide) rfl (fun ls hl => ?_)
            refine lv_iinc (v := x5 + (1 : Int32)) (lv' := [(5, .int (x5 + (1 : Int32))), (3, .int x5), (4, .int z7), (6, .int z7), (0, .ref (b + 0)), (1, .int x1), (2, .int x2)]) hx hb dX11_seat_124 hl (k := 6) rfl rfl (by decide) rfl (fun ls hl => ?_)
            refine lv_goto (tgt := 43) hx hb dX11_seat_127 (by decide) ?_
            exact ih _ _ _ _ _ _ _ _ _ h hW hS (lv_sub hl [4, 5, 6, 1, 2, 0] rfl)
          · replace h := z_f h hc
            clear hc
            refine lv_goto (tgt := 124) hx hb dX11_seat_114 (by decide) ?_
            refine lv_iinc (v := x5 + (1 : Int32)) (lv' := [(5, .int (x5 + (1 : Int32))), (6, .int z7), (0, .ref (b + 0)), (1, .int x1), (2, .int x2), (3, .int x3), (4, .int x4)]) hx hb dX11_seat_124 hl (k := 6) rfl rfl (by decide) rfl (fun ls hl => ?_)
            refine lv_goto (tgt := 43) hx hb dX11_seat_127 (by decide) ?_
            exact ih _ _ _ _ _ _ _ _ _ h hW hS (lv_sub hl [2, 3, 4, 5, 6, 0] rfl)
      · replace h := z_f h hc
        clear hc
        refine lv_aload_n hx hb dX11_seat_56 rfl (lv_at hl 0 rfl) ?_
        refine lv_iload hx hb dX11_seat_57 (lv_at hl 5 rfl) ?_
        replace h := z_bd h
        obtain ⟨t8, hq, h⟩ := h
        refine z_cvi (As := [.int x5]) C0 hml hl.1 hW hS (c_X11_hasRoom l D A b x5 u hq) mv_X11_127 rfl ⟨Nat.le_of_ble_eq_true rfl, Nat.le_of_ble_eq_true rfl⟩ rfl rfl (Nat.le_of_ble_eq_true rfl) dX11_seat_59 (fun H locs hW hS => ?_)
        clear hq
        refine z_ifneZ C0 (tgt := 68) dX11_seat_62 (by decide) (fun hc => ?_) (fun hc => ?_)
        · replace h := z_t h hc
          clear hc
          refine lv_aload_n hx hb dX11_seat_68 rfl (lv_at hl 0 rfl) ?_
          refine lv_iload_n hx hb dX11_seat_69 rfl (lv_at hl 1 rfl) ?_
          refine lv_iconst (v := (0 : Int32)) hx hb dX11_seat_70 (by decide) ?_
          refine lv_iload hx hb dX11_seat_71 (lv_at hl 5 rfl) ?_
          replace h := z_bd h
          obtain ⟨u9, hq, h⟩ := h
          refine z_cvv (As := [.int x1, .int (0 : Int32), .int x5]) C0 hml hl.1 hW hS (c_X11_put l D A b x1 (0 : Int32) x5 u hq) mv_X11_66 rfl ⟨Nat.le_of_ble_eq_true rfl, Nat.le_of_ble_eq_true rfl⟩ rfl rfl (Nat.le_of_ble_eq_true rfl) dX11_seat_73 (fun H locs hW hS => ?_)
          clear hq
          refine lv_aload_n hx hb dX11_seat_76 rfl (lv_at hl 0 rfl) ?_
          refine lv_sipush (v := (255 : Int32)) hx hb dX11_seat_77 (by decide) ?_
          replace h := z_bd h
          obtain ⟨r10, hq, h⟩ := h
          refine z_cvi (As := [.int (255 : Int32)]) C0 hml hl.1 hW hS (c_X11_leanBy l D A b (255 : Int32) u9 hq) mv_X11_327 rfl ⟨Nat.le_of_ble_eq_true rfl, Nat.le_of_ble_eq_true rfl⟩ rfl rfl (Nat.le_of_ble_eq_true rfl) dX11_seat_80 (fun H locs hW hS => ?_)
          clear hq
          refine lv_istore (lv' := [(6, .int r10), (0, .ref (b + 0)), (1, .int x1), (2, .int x2), (3, .int x3), (4, .int x4), (5, .int x5)]) hx hb dX11_seat_83 hl (by decide) rfl (fun ls hl => ?_)
          refine lv_aload_n hx hb dX11_seat_85 rfl (lv_at hl 1 rfl) ?_
          refine lv_iload_n hx hb dX11_seat_86 rfl (lv_at hl 2 rfl) ?_
          refine lv_iconst (v := (0 : Int32)) hx hb dX11_seat_87 (by decide) ?_
          refine lv_iload_n hx hb dX11_seat_88 rfl (lv_at hl 3 rfl) ?_
          replace h := z_bd h
          obtain ⟨u11, hq, h⟩ := h
          refine z_cvv (As := [.int x1, .int (0 : Int32), .int x2]) C0 hml hl.1 hW hS (c_X11_put l D A b x1 (0 : Int32) x2 u9 hq) mv_X11_66 rfl ⟨Nat.le_of_ble_eq_true rfl, Nat.le_of_ble_eq_true rfl⟩ rfl rfl (Nat.le_of_ble_eq_true rfl) dX11_seat_89 (fun H locs hW hS => ?_)
          clear hq
          refine lv_iload hx hb dX11_seat_92 (lv_at hl 0 rfl) ?_
          refine lv_if_ge (tgt := 103) hx hb dX11_seat_94 (by decide) (fun hc => ?_) (fun hc => ?_)
          · replace h := z_t h hc
            clear hc
            refine lv_iload hx hb dX11_seat_103 (lv_at hl 0 rfl) ?_
            refine lv_istore (lv' := [(6, .int r10), (0, .ref (b + 0)), (1, .int x1), (2, .int x2), (3, .int x3), (4, .int x4), (5, .int x5)]) hx hb dX11_seat_105 hl (by decide) rfl (fun ls hl => ?_)
            refine lv_iload hx hb dX11_seat_107 (lv_at hl 0 rfl) ?_
            refine lv_iload hx hb dX11_seat_109 (lv_at hl 5 rfl) ?_
            refine lv_icmp_lt (tgt := 117) hx hb dX11_seat_111 (by decide) (fun hc => ?_) (fun hc => ?_)
            · replace h := z_t h hc
              clear hc
              refine lv_iload hx hb dX11_seat_117 (lv_at hl 0 rfl) ?_
              refine lv_istore (lv' := [(4, .int r10), (6, .int r10), (0, .ref (b + 0)), (1, .int x1), (2, .int x2), (3, .int x3), (5, .int x5)]) hx hb dX11_seat_119 hl (by decide) rfl (fun ls hl => ?_)
              refine lv_iload hx hb dX11_seat_121 (lv_at hl 6 rfl) ?_
              refine lv_istore_n (lv' := [(3, .int x5), (4, .int r10), (6, .int r10), (0, .ref (b + 0)), (1, .int x1), (2, .int x2), (5, .int x5)]) hx hb dX11_seat_123 rfl hl (by decide) rfl (fun ls hl => ?_)
              refine lv_iinc (v := x5 + (1 : Int32)) (lv' := [(5, .int (x5 + (1 : Int32))), (3, .int x5), (4, .int r10), (6, .int r10), (0, .ref (b + 0)), (1, .int x1), (2, .int x2)]) hx hb dX11_seat_124 hl (k := 6) rfl rfl (by decide) rfl (fun ls hl => ?_)
              refine lv_goto (tgt := 43) hx hb dX11_seat_127 (by decide) ?_
              exact ih _ _ _ _ _ _ _ _ _ h hW hS (lv_sub hl [4, 5, 6, 1, 2, 0] rfl)
            · replace h := z_f h hc
              clear hc
              refine lv_goto (tgt := 124) hx hb dX11_seat_114 (by decide) ?_
              refine lv_iinc (v := x5 + (1 : Int32)) (lv' := [(5, .int (x5 + (1 : Int32))), (6, .int r10), (0, .ref (b + 0)), (1, .int x1), (2, .int x2), (3, .int x3), (4, .int x4)]) hx hb dX11_seat_124 hl (k := 6) rfl rfl (by decide) rfl (fun ls hl => ?_)
              refine lv_goto (tgt := 43) hx hb dX11_seat_127 (by decide) ?_
              exact ih _ _ _ _ _ _ _ _ _ h hW hS (lv_sub hl [2, 3, 4, 5, 6, 0] rfl)
          · replace h := z_f h hc
            clear hc
            refine lv_iload hx hb dX11_seat_97 (lv_at hl 0 rfl) ?_
            refine lv_ineg hx hb dX11_seat_99 ?_
            refine lv_goto (tgt := 105) hx hb dX11_seat_100 (by decide) ?_
            refine lv_topi (fun z12 e1 => ?_)
            replace h := z_ly h e1
            clear e1
            refine lv_istore (lv' := [(6, .int z12), (0, .ref (b + 0)), (1, .int x1), (2, .int x2), (3, .int x3), (4, .int x4), (5, .int x5)]) hx hb dX11_seat_105 hl (by decide) rfl (fun ls hl => ?_)
            refine lv_iload hx hb dX11_seat_107 (lv_at hl 0 rfl) ?_
            refine lv_iload hx hb dX11_seat_109 (lv_at hl 5 rfl) ?_
            refine lv_icmp_lt (tgt := 117) hx hb dX11_seat_111 (by decide) (fun hc => ?_) (fun hc => ?_)
            · replace h := z_t h hc
              clear hc
              refine lv_iload hx hb dX11_seat_117 (lv_at hl 0 rfl) ?_
              refine lv_istore (lv' := [(4, .int z12), (6, .int z12), (0, .ref (b + 0)), (1, .int x1), (2, .int x2), (3, .int x3), (5, .int x5)]) hx hb dX11_seat_119 hl (by decide) rfl (fun ls hl => ?_)
              refine lv_iload hx hb dX11_seat_121 (lv_at hl 6 rfl) ?_
              refine lv_istore_n (lv' := [(3, .int x5), (4, .int z12), (6, .int z12), (0, .ref (b + 0)), (1, .int x1), (2, .int x2), (5, .int x5)]) hx hb dX11_seat_123 rfl hl (by decide) rfl (fun ls hl => ?_)
              refine lv_iinc (v := x5 + (1 : Int32)) (lv' := [(5, .int (x5 + (1 : Int32))), (3, .int x5), (4, .int z12), (6, .int z12), (0, .ref (b + 0)), (1, .int x1), (2, .int x2)]) hx hb dX11_seat_124 hl (k := 6) rfl rfl (by decide) rfl (fun ls hl => ?_)
              refine lv_goto (tgt := 43) hx hb dX11_seat_127 (by decide) ?_
              exact ih _ _ _ _ _ _ _ _ _ h hW hS (lv_sub hl [4, 5, 6, 1, 2, 0] rfl)
            · replace h := z_f h hc
              clear hc
              refine lv_goto (tgt := 124) hx hb dX11_seat_114 (by decide) ?_
              refine lv_iinc (v := x5 + (1 : Int32)) (lv' := [(5, .int (x5 + (1 : Int32))), (6, .int z12), (0, .ref (b + 0)), (1, .int x1), (2, .int x2), (3, .int x3), (4, .int x4)]) hx hb dX11_seat_124 hl (k := 6) rfl rfl (by decide) rfl (fun ls hl => ?_)
              refine lv_goto (tgt := 43) hx hb dX11_seat_127 (by decide) ?_
              exact ih _ _ _ _ _ _ _ _ _ h hW hS (lv_sub hl [2, 3, 4, 5, 6, 0] rfl)
        · replace h := z_ff h hc
          clear hc
          refine lv_goto (tgt := 124) hx hb dX11_seat_65 (by decide) ?_
          refine lv_iinc (v := x5 + (1 : Int32)) (lv' := [(5, .int (x5 + (1 : Int32))), (0, .ref (b + 0)), (1, .int x1), (2, .int x2), (3, .int x3), (4, .int x4)]) hx hb dX11_seat_124 hl (k := 5) rfl rfl (by decide) rfl (fun ls hl => ?_)
          refine lv_goto (tgt := 43) hx hb dX11_seat_127 (by decide) ?_
          exact ih _ _ _ _ _ _ _ _ _ h hW hS (lv_sub hl [1, 2, 3, 4, 5, 0] rfl)
theorem f_X11_seat_e (a1 : Int32) (u : zU) : f_X11_seat a1 u = z_let (f_X11_isRider a1 u) (fun t1 => if t1 = true then (z_let (z_up u 0 0 (0 : Int32)) (fun u2 => if (u2 0 0) ≤ 0 then ((f_X11_of a1 (0 : Int32) u2).bind (fun r3 => f_X11_seat_43 5000 a1 r3 (-1 : Int32) (2000000000 : Int32) (0 : Int32) u2)) else (some ((0 : Int32), u2)))) else (z_let (z_up u 0 0 (1 : Int32)) (fun u13 => if (u13 0 0) ≤ 0 then ((f_X11_of a1 (0 : Int32) u13).bind (fun r14 => f_X11_seat_43 5000 a1 r14 (-1 : Int32) (2000000000 : Int32) (0 : Int32) u13)) else (some ((0 : Int32), u13))))) := rfl
set_option maxRecDepth 100000 in
set_option maxHeartbeats 4000000 in
theorem c_X11_seat (l : Launch) (D : zD) (A : Nat → Prop) (b : Nat) (a1 : Int32) (u : zU) {v : Int32} {u' : zU} (h : f_X11_seat a1 u = some (v, u')) : z_M l D A b gM yX11_seat cX11_seat 7 (some .int) 3 67 [.ref (b + 0), .int a1] u (some (.int v)) u' := by
  refine z_enter (by decide) (Nat.le_of_ble_eq_true rfl) ?_
  intro p e s m below meth c ls C0 hr hml hlk hW hS hl
  have hl : lv_has ls 7 [(0, .ref (b + 0)), (1, .int a1)] := hl
  have hx := C0.1
  have hb := C0.2.1
  rw [f_X11_seat_e] at h
  refine lv_aload_n hx hb dX11_seat_0 rfl (lv_at hl 0 rfl) ?_
  refine lv_aload_n hx hb dX11_seat_1 rfl (lv_at hl 0 rfl) ?_
  refine lv_iload_n hx hb dX11_seat_2 rfl (lv_at hl 1 rfl) ?_
  obtain ⟨t1, hq⟩ : ∃ y, f_X11_isRider a1 u = y := ⟨_, rfl⟩
  replace h := z_lz h hq
  refine z_cvi (As := [.int a1]) C0 hml hl.1 hW hS (c_X11_isRider l D A b a1 u hq) mv_X11_291 rfl ⟨Nat.le_of_ble_eq_true rfl, Nat.le_of_ble_eq_true rfl⟩ rfl rfl (Nat.le_of_ble_eq_true rfl) dX11_seat_3 (fun H locs hW hS => ?_)
  clear hq
  refine z_ifneZ C0 (tgt := 13) dX11_seat_6 (by decide) (fun hc => ?_) (fun hc => ?_)
  · replace h := z_t h hc
    clear hc
    refine lv_iconst (v := (0 : Int32)) hx hb dX11_seat_13 (by decide) ?_
    refine z_puti C0 hW hS fl_X11_42 rfl rfl rfl rfl dX11_seat_14 (fun H locs u2 e1 hW hS => ?_)
    replace h := z_ly h e1
    clear e1
    refine lv_aload_n hx hb dX11_seat_17 rfl (lv_at hl 0 rfl) ?_
    refine z_geti C0 hW fl_X11_42 rfl rfl dX11_seat_18 ?_
    refine lv_if_le (tgt := 26) hx hb dX11_seat_21 (by decide) (fun hc => ?_) (fun hc => ?_)
    · replace h := z_t h hc
      clear hc
      refine lv_aload_n hx hb dX11_seat_26 rfl (lv_at hl 0 rfl) ?_
      refine lv_iload_n hx hb dX11_seat_27 rfl (lv_at hl 1 rfl) ?_
      refine lv_iconst (v := (0 : Int32)) hx hb dX11_seat_28 (by decide) ?_
      replace h := z_bd h
      obtain ⟨r3, hq, h⟩ := h
      refine z_cvi (As := [.int a1, .int (0 : Int32)]) C0 hml hl.1 hW hS (c_X11_of l D A b a1 (0 : Int32) u2 hq) mv_X11_49 rfl ⟨Nat.le_of_ble_eq_true rfl, Nat.le_of_ble_eq_true rfl⟩ rfl rfl (Nat.le_of_ble_eq_true rfl) dX11_seat_29 (fun H locs hW hS => ?_)
      clear hq
      refine lv_istore_n (lv' := [(2, .int r3), (0, .ref (b + 0)), (1, .int a1)]) hx hb dX11_seat_32 rfl hl (by decide) rfl (fun ls hl => ?_)
      refine lv_iconst (v := (-1 : Int32)) hx hb dX11_seat_33 (by decide) ?_
      refine lv_istore_n (lv' := [(3, .int (-1 : Int32)), (2, .int r3), (0, .ref (b + 0)), (1, .int a1)]) hx hb dX11_seat_34 rfl hl (by decide) rfl (fun ls hl => ?_)
      refine lv_ldcw (own := yX11_seat.cls) (v := (2000000000 : Int32)) hx hb C0.2.2.2.1 (C0.2.2.1 _ k_X11_330) dX11_seat_35 ?_
      refine lv_istore (lv' := [(4, .int (2000000000 : Int32)), (3, .int (-1 : Int32)), (2, .int r3), (0, .ref (b + 0)), (1, .int a1)]) hx hb dX11_seat_38 hl (by decide) rfl (fun ls hl => ?_)
      refine lv_iconst (v := (0 : Int32)) hx hb dX11_seat_40 (by decide) ?_
      refine lv_istore (lv' := [(5, .int (0 : Int32)), (4, .int (2000000000 : Int32)), (3, .int (-1 : Int32)), (2, .int r3), (0, .ref (b + 0)), (1, .int a1)]) hx hb dX11_seat_41 hl (by decide) rfl (fun ls hl => ?_)
      exact l_X11_seat_43 C0 hr hml hlk 5000 _ _ _ _ _ _ _ _ _ h hW hS (lv_sub hl [4, 5, 3, 2, 1, 0] rfl)
    · replace h := z_f h hc
      clear hc
      refine lv_iconst (v := (0 : Int32)) hx hb dX11_seat_24 (by decide) ?_
      cases h
      exact z_iret C0 hr hlk hW hS dX11_seat_25
  · replace h := z_ff h hc
    clear hc
    refine lv_iconst (v := (1 : Int32)) hx hb dX11_seat_9 (by decide) ?_
    refine lv_goto (tgt := 14) hx hb dX11_seat_10 (by decide) ?_
    refine z_puti C0 hW hS fl_X11_42 rfl rfl rfl rfl dX11_seat_14 (fun H locs u13 e1 hW hS => ?_)
    replace h := z_ly h e1
    clear e1
    refine lv_aload_n hx hb dX11_seat_17 rfl (lv_at hl 0 rfl) ?_
    refine z_geti C0 hW fl_X11_42 rfl rfl dX11_seat_18 ?_
    refine lv_if_le (tgt := 26) hx hb dX11_seat_21 (by decide) (fun hc => ?_) (fun hc => ?_)
    · replace h := z_t h hc
      clear hc
      refine lv_aload_n hx hb dX11_seat_26 rfl (lv_at hl 0 rfl) ?_
      refine lv_iload_n hx hb dX11_seat_27 rfl (lv_at hl 1 rfl) ?_
      refine lv_iconst (v := (0 : Int32)) hx hb dX11_seat_28 (by decide) ?_
      replace h := z_bd h
      obtain ⟨r14, hq, h⟩ := h
      refine z_cvi (As := [.int a1, .int (0 : Int32)]) C0 hml hl.1 hW hS (c_X11_of l D A b a1 (0 : Int32) u13 hq) mv_X11_49 rfl ⟨Nat.le_of_ble_eq_true rfl, Nat.le_of_ble_eq_true rfl⟩ rfl rfl (Nat.le_of_ble_eq_true rfl) dX11_seat_29 (fun H locs hW hS => ?_)
      clear hq
      refine lv_istore_n (lv' := [(2, .int r14), (0, .ref (b + 0)), (1, .int a1)]) hx hb dX11_seat_32 rfl hl (by decide) rfl (fun ls hl => ?_)
      refine lv_iconst (v := (-1 : Int32)) hx hb dX11_seat_33 (by decide) ?_
      refine lv_istore_n (lv' := [(3, .int (-1 : Int32)), (2, .int r14), (0, .ref (b + 0)), (1, .int a1)]) hx hb dX11_seat_34 rfl hl (by decide) rfl (fun ls hl => ?_)
      refine lv_ldcw (own := yX11_seat.cls) (v := (2000000000 : Int32)) hx hb C0.2.2.2.1 (C0.2.2.1 _ k_X11_330) dX11_seat_35 ?_
      refine lv_istore (lv' := [(4, .int (2000000000 : Int32)), (3, .int (-1 : Int32)), (2, .int r14), (0, .ref (b + 0)), (1, .int a1)]) hx hb dX11_seat_38 hl (by decide) rfl (fun ls hl => ?_)
      refine lv_iconst (v := (0 : Int32)) hx hb dX11_seat_40 (by decide) ?_
      refine lv_istore (lv' := [(5, .int (0 : Int32)), (4, .int (2000000000 : Int32)), (3, .int (-1 : Int32)), (2, .int r14), (0, .ref (b + 0)), (1, .int a1)]) hx hb dX11_seat_41 hl (by decide) rfl (fun ls hl => ?_)
      exact l_X11_seat_43 C0 hr hml hlk 5000 _ _ _ _ _ _ _ _ _ h hW hS (lv_sub hl [4, 5, 3, 2, 1, 0] rfl)
    · replace h := z_f h hc
      clear hc
      refine lv_iconst (v := (0 : Int32)) hx hb dX11_seat_24 (by decide) ?_
      cases h
      exact z_iret C0 hr hlk hW hS dX11_seat_25
def f_X11_shifts_14 : Nat → Int32 → Int32 → Int32 → zU → Option (Int32 × zU)
  | 0, _, _, _, _ => none
  | n + 1, x1, x2, x3, u =>
    if (256 : Int32) ≤ x3 then (some (x2, u)) else (if (x3 &&& (x1 ^^^ (-1 : Int32))) = 0 then ((f_X11_leanBy (x1 &&& (x3 ^^^ (-1 : Int32))) u).bind (fun r3 => if r3 = 0 then (if x2 = (-1 : Int32) then (f_X11_shifts_14 n x1 x3 (x3 + (1 : Int32)) u) else ((f_X11_bits x3 u).bind (fun r4 => (f_X11_bits x2 u).bind (fun r5 => if r5 ≤ r4 then (f_X11_shifts_14 n x1 x2 (x3 + (1 : Int32)) u) else (f_X11_shifts_14 n x1 x3 (x3 + (1 : Int32)) u))))) else (f_X11_shifts_14 n x1 x2 (x3 + (1 : Int32)) u))) else (f_X11_shifts_14 n x1 x2 (x3 + (1 : Int32)) u))
theorem f_X11_shifts_14_s (n : Nat) (x1 : Int32) (x2 : Int32) (x3 : Int32) (u : zU) : f_X11_shifts_14 (n + 1) x1 x2 x3 u = if (256 : Int32) ≤ x3 then (some (x2, u)) else (if (x3 &&& (x1 ^^^ (-1 : Int32))) = 0 then ((f_X11_leanBy (x1 &&& (x3 ^^^ (-1 : Int32))) u).bind (fun r3 => if r3 = 0 then (if x2 = (-1 : Int32) then (f_X11_shifts_14 n x1 x3 (x3 + (1 : Int32)) u) else ((f_X11_bits x3 u).bind (fun r4 => (f_X11_bits x2 u).bind (fun r5 => if r5 ≤ r4 then (f_X11_shifts_14 n x1 x2 (x3 + (1 : Int32)) u) else (f_X11_shifts_14 n x1 x3 (x3 + (1 : Int32)) u))))) else (f_X11_shifts_14 n x1 x2 (x3 + (1 : Int32)) u))) else (f_X11_shifts_14 n x1 x2 (x3 + (1 : Int32)) u)) := rfl
def f_X11_shifts  (u : zU) : Option (Int32 × zU) :=
  z_let (z_up u 0 0 (0 : Int32)) (fun u1 => (f_X11_seated u1).bind (fun r2 => f_X11_shifts_14 5000 r2 (-1 : Int32) (0 : Int32) u1))
set_option maxRecDepth 100000 in
set_option maxHeartbeats 4000000 in
theorem l_X11_shifts_14 {l : Launch} {D : zD} {A : Nat → Prop} {b : Nat} {p : Program} {e : Env} {s : State} {m : MethodId} {args : Array Value} {below : List Frame} {meth : Method} {c : Code} {v : Int32} {u' : zU} (C0 : z_C p c cX11_shifts s m args yX11_shifts.cls D A) (hr : meth.sig.returnType = (some .int)) (hml : c.maxLocals = 4) (hlk : meth.locks = false) : ∀ (n : Nat) (x1 : Int32) (x2 : Int32) (x3 : Int32) (u : zU) (H : Heap) (locs : List Loc) (ls : Array Slot), f_X11_shifts_14 n x1 x2 x3 u = some (v, u') → z_W D A b gM u H → va_S A s.heap H locs → lv_has ls 4 [(0, .ref (b + 0)), (1, .int x1), (2, .int x2), (3, .int x3)] → W p l e { frames := 3, cells := 0, slots := 0, locals := 67 } s m args below meth c H locs 0 0 (z_End D A b gM below args s (some (.int v)) u') (F0 m 14 ls []) := by
  have hx := C0.1
  have hb := C0.2.1
  intro n
  induction n with
  | zero => intro x1 x2 x3 u H locs ls h hW hS hl; cases h
  | succ n ih =>
    intro x1 x2 x3 u H locs ls h hW hS hl
    rw [f_X11_shifts_14_s] at h
    refine lv_iload_n hx hb dX11_shifts_14 rfl (lv_at hl 3 rfl) ?_
    refine lv_sipush (v := (256 : Int32)) hx hb dX11_shifts_15 (by decide) ?_
    refine lv_icmp_ge (tgt := 65) hx hb dX11_shifts_18 (by decide) (fun hc => ?_) (fun hc => ?_)
    · replace h := z_t h hc
      clear hc
      refine lv_iload_n hx hb dX11_shifts_65 rfl (lv_at hl 2 rfl) ?_
      cases h
      exact z_iret C0 hr hlk hW hS dX11_shifts_66
    · replace h := z_f h hc
      clear hc
      refine lv_iload_n hx hb dX11_shifts_21 rfl (lv_at hl 3 rfl) ?_
      refine lv_iload_n hx hb dX11_shifts_22 rfl (lv_at hl 1 rfl) ?_
      refine lv_iconst (v := (-1 : Int32)) hx hb dX11_shifts_23 (by decide) ?_
      refine lv_ixor hx hb dX11_shifts_24 ?_
      refine lv_iand hx hb dX11_shifts_25 ?_
      refine lv_if_ne (tgt := 59) hx hb dX11_shifts_26 (by decide) (fun hc => ?_) (fun hc => ?_)
      · replace h := z_f h hc
        clear hc
        refine lv_iinc (v := x3 + (1 : Int32)) (lv' := [(3, .int (x3 + (1 : Int32))), (0, .ref (b + 0)), (1, .int x1), (2, .int x2)]) hx hb dX11_shifts_59 hl (k := 3) rfl rfl (by decide) rfl (fun ls hl => ?_)
        refine lv_goto (tgt := 14) hx hb dX11_shifts_62 (by decide) ?_
        exact ih _ _ _ _ _ _ _ h hW hS (lv_sub hl [1, 2, 3, 0] rfl)
      · replace h := z_t h hc
        clear hc
        refine lv_aload_n hx hb dX11_shifts_29 rfl (lv_at hl 0 rfl) ?_
        refine lv_iload_n hx hb dX11_shifts_30 rfl (lv_at hl 1 rfl) ?_
        refine lv_iload_n hx hb dX11_shifts_31 rfl (lv_at hl 3 rfl) ?_
        refine lv_iconst (v := (-1 : Int32)) hx hb dX11_shifts_32 (by decide) ?_
        refine lv_ixor hx hb dX11_shifts_33 ?_
        refine lv_iand hx hb dX11_shifts_34 ?_
        replace h := z_bd h
        obtain ⟨r3, hq, h⟩ := h
        refine z_cvi (As := [.int (x1 &&& (x3 ^^^ (-1 : Int32)))]) C0 hml hl.1 hW hS (c_X11_leanBy l D A b (x1 &&& (x3 ^^^ (-1 : Int32))) u hq) mv_X11_327 rfl ⟨Nat.le_of_ble_eq_true rfl, Nat.le_of_ble_eq_true rfl⟩ rfl rfl (Nat.le_of_ble_eq_true rfl) dX11_shifts_35 (fun H locs hW hS => ?_)
        clear hq
        refine lv_if_ne (tgt := 59) hx hb dX11_shifts_38 (by decide) (fun hc => ?_) (fun hc => ?_)
        · replace h := z_f h hc
          clear hc
          refine lv_iinc (v := x3 + (1 : Int32)) (lv' := [(3, .int (x3 + (1 : Int32))), (0, .ref (b + 0)), (1, .int x1), (2, .int x2)]) hx hb dX11_shifts_59 hl (k := 3) rfl rfl (by decide) rfl (fun ls hl => ?_)
          refine lv_goto (tgt := 14) hx hb dX11_shifts_62 (by decide) ?_
          exact ih _ _ _ _ _ _ _ h hW hS (lv_sub hl [1, 2, 3, 0] rfl)
        · replace h := z_t h hc
          clear hc
          refine lv_iload_n hx hb dX11_shifts_41 rfl (lv_at hl 2 rfl) ?_
          refine lv_iconst (v := (-1 : Int32)) hx hb dX11_shifts_42 (by decide) ?_
          refine lv_icmp_eq (tgt := 57) hx hb dX11_shifts_43 (by decide) (fun hc => ?_) (fun hc => ?_)
          · replace h := z_t h hc
            clear hc
            refine lv_iload_n hx hb dX11_shifts_57 rfl (lv_at hl 3 rfl) ?_
            refine lv_istore_n (lv' := [(2, .int x3), (0, .ref (b + 0)), (1, .int x1), (3, .int x3)]) hx hb dX11_shifts_58 rfl hl (by decide) rfl (fun ls hl => ?_)
            refine lv_iinc (v := x3 + (1 : Int32)) (lv' := [(3, .int (x3 + (1 : Int32))), (2, .int x3), (0, .ref (b + 0)), (1, .int x1)]) hx hb dX11_shifts_59 hl (k := 3) rfl rfl (by decide) rfl (fun ls hl => ?_)
            refine lv_goto (tgt := 14) hx hb dX11_shifts_62 (by decide) ?_
            exact ih _ _ _ _ _ _ _ h hW hS (lv_sub hl [2, 3, 1, 0] rfl)
          · replace h := z_f h hc
            clear hc
            refine lv_iload_n hx hb dX11_shifts_46 rfl (lv_at hl 3 rfl) ?_
            replace h := z_bd h
            obtain ⟨r4, hq, h⟩ := h
            refine z_csi (As := [.int x3]) C0 hml hl.1 hW hS (c_X11_bits l D A b x3 u hq) ms_X11_57 ⟨Nat.le_of_ble_eq_true rfl, Nat.le_of_ble_eq_true rfl⟩ rfl rfl (Nat.le_of_ble_eq_true rfl) dX11_shifts_47 (fun H locs hW hS => ?_)
            clear hq
            refine lv_iload_n hx hb dX11_shifts_50 rfl (lv_at hl 2 rfl) ?_
            replace h := z_bd h
            obtain ⟨r5, hq, h⟩ := h
            refine z_csi (As := [.int x2]) C0 hml hl.1 hW hS (c_X11_bits l D A b x2 u hq) ms_X11_57 ⟨Nat.le_of_ble_eq_true rfl, Nat.le_of_ble_eq_true rfl⟩ rfl rfl (Nat.le_of_ble_eq_true rfl) dX11_shifts_51 (fun H locs hW hS => ?_)
            clear hq
            refine lv_icmp_ge (tgt := 59) hx hb dX11_shifts_54 (by decide) (fun hc => ?_) (fun hc => ?_)
            · replace h := z_t h hc
              clear hc
              refine lv_iinc (v := x3 + (1 : Int32)) (lv' := [(3, .int (x3 + (1 : Int32))), (0, .ref (b + 0)), (1, .int x1), (2, .int x2)]) hx hb dX11_shifts_59 hl (k := 3) rfl rfl (by decide) rfl (fun ls hl => ?_)
              refine lv_goto (tgt := 14) hx hb dX11_shifts_62 (by decide) ?_
              exact ih _ _ _ _ _ _ _ h hW hS (lv_sub hl [1, 2, 3, 0] rfl)
            · replace h := z_f h hc
              clear hc
              refine lv_iload_n hx hb dX11_shifts_57 rfl (lv_at hl 3 rfl) ?_
              refine lv_istore_n (lv' := [(2, .int x3), (0, .ref (b + 0)), (1, .int x1), (3, .int x3)]) hx hb dX11_shifts_58 rfl hl (by decide) rfl (fun ls hl => ?_)
              refine lv_iinc (v := x3 + (1 : Int32)) (lv' := [(3, .int (x3 + (1 : Int32))), (2, .int x3), (0, .ref (b + 0)), (1, .int x1)]) hx hb dX11_shifts_59 hl (k := 3) rfl rfl (by decide) rfl (fun ls hl => ?_)
              refine lv_goto (tgt := 14) hx hb dX11_shifts_62 (by decide) ?_
              exact ih _ _ _ _ _ _ _ h hW hS (lv_sub hl [2, 3, 1, 0] rfl)
theorem f_X11_shifts_e  (u : zU) : f_X11_shifts u = z_let (z_up u 0 0 (0 : Int32)) (fun u1 => (f_X11_seated u1).bind (fun r2 => f_X11_shifts_14 5000 r2 (-1 : Int32) (0 : Int32) u1)) := rfl
set_option maxRecDepth 100000 in
set_option maxHeartbeats 4000000 in
theorem c_X11_shifts (l : Launch) (D : zD) (A : Nat → Prop) (b : Nat)  (u : zU) {v : Int32} {u' : zU} (h : f_X11_shifts u = some (v, u')) : z_M l D A b gM yX11_shifts cX11_shifts 4 (some .int) 3 67 [.ref (b + 0)] u (some (.int v)) u' := by
  refine z_enter (by decide) (Nat.le_of_ble_eq_true rfl) ?_
  intro p e s m below meth c ls C0 hr hml hlk hW hS hl
  have hl : lv_has ls 4 [(0, .ref (b + 0))] := hl
  have hx := C0.1
  have hb := C0.2.1
  rw [f_X11_shifts_e] at h
  refine lv_aload_n hx hb dX11_shifts_0 rfl (lv_at hl 0 rfl) ?_
  refine lv_iconst (v := (0 : Int32)) hx hb dX11_shifts_1 (by decide) ?_
  refine z_puti C0 hW hS fl_X11_42 rfl rfl rfl rfl dX11_shifts_2 (fun H locs u1 e1 hW hS => ?_)
  replace h := z_ly h e1
  clear e1
  refine lv_aload_n hx hb dX11_shifts_5 rfl (lv_at hl 0 rfl) ?_
  replace h := z_bd h
  obtain ⟨r2, hq, h⟩ := h
  refine z_cvi (As := []) C0 hml hl.1 hW hS (c_X11_seated l D A b u1 hq) mv_X11_306 rfl ⟨Nat.le_of_ble_eq_true rfl, Nat.le_of_ble_eq_true rfl⟩ rfl rfl (Nat.le_of_ble_eq_true rfl) dX11_shifts_6 (fun H locs hW hS => ?_)
  clear hq
  refine lv_istore_n (lv' := [(1, .int r2), (0, .ref (b + 0))]) hx hb dX11_shifts_9 rfl hl (by decide) rfl (fun ls hl => ?_)
  refine lv_iconst (v := (-1 : Int32)) hx hb dX11_shifts_10 (by decide) ?_
  refine lv_istore_n (lv' := [(2, .int (-1 : Int32)), (1, .int r2), (0, .ref (b + 0))]) hx hb dX11_shifts_11 rfl hl (by decide) rfl (fun ls hl => ?_)
  refine lv_iconst (v := (0 : Int32)) hx hb dX11_shifts_12 (by decide) ?_
  refine lv_istore_n (lv' := [(3, .int (0 : Int32)), (2, .int (-1 : Int32)), (1, .int r2), (0, .ref (b + 0))]) hx hb dX11_shifts_13 rfl hl (by decide) rfl (fun ls hl => ?_)
  exact l_X11_shifts_14 C0 hr hml hlk 5000 _ _ _ _ _ _ _ h hW hS (lv_sub hl [3, 2, 1, 0] rfl)
def f_X11_majority_18 : Nat → Int32 → Int32 → zU → Option (Int32 × zU)
  | 0, _, _, _ => none
  | n + 1, x1, x2, u =>
    if (16 : Int32) ≤ x2 then (some (x1, u)) else ((f_X11_isMajor x2 u).bind (fun t3 => if t3 = true then (if x1 = (-1 : Int32) then (f_X11_majority_18 n x2 (x2 + (1 : Int32)) u) else ((f_X11_bits x2 u).bind (fun r4 => (f_X11_bits x1 u).bind (fun r5 => if r5 ≤ r4 then (f_X11_majority_18 n x1 (x2 + (1 : Int32)) u) else (f_X11_majority_18 n x2 (x2 + (1 : Int32)) u))))) else (f_X11_majority_18 n x1 (x2 + (1 : Int32)) u)))
theorem f_X11_majority_18_s (n : Nat) (x1 : Int32) (x2 : Int32) (u : zU) : f_X11_majority_18 (n + 1) x1 x2 u = if (16 : Int32) ≤ x2 then (some (x1, u)) else ((f_X11_isMajor x2 u).bind (fun t3 => if t3 = true then (if x1 = (-1 : Int32) then (f_X11_majority_18 n x2 (x2 + (1 : Int32)) u) else ((f_X11_bits x2 u).bind (fun r4 => (f_X11_bits x1 u).bind (fun r5 => if r5 ≤ r4 then (f_X11_majority_18 n x1 (x2 + (1 : Int32)) u) else (f_X11_majority_18 n x2 (x2 + (1 : Int32)) u))))) else (f_X11_majority_18 n x1 (x2 + (1 : Int32)) u))) := rfl
def f_X11_majority  (u : zU) : Option (Int32 × zU) :=
  z_let (z_up u 0 0 (0 : Int32)) (fun u1 => (f_X11_seated u1).bind (fun r2 => if r2 = 0 then (some ((0 : Int32), u1)) else (f_X11_majority_18 5000 (-1 : Int32) (0 : Int32) u1)))
set_option maxRecDepth 100000 in
set_option maxHeartbeats 4000000 in
theorem l_X11_majority_18 {l : Launch} {D : zD} {A : Nat → Prop} {b : Nat} {p : Program} {e : Env} {s : State} {m : MethodId} {args : Array Value} {below : List Frame} {meth : Method} {c : Code} {v : Int32} {u' : zU} (C0 : z_C p c cX11_majority s m args yX11_majority.cls D A) (hr : meth.sig.returnType = (some .int)) (hml : c.maxLocals = 3) (hlk : meth.locks = false) : ∀ (n : Nat) (x1 : Int32) (x2 : Int32) (u : zU) (H : Heap) (locs : List Loc) (ls : Array Slot), f_X11_majority_18 n x1 x2 u = some (v, u') → z_W D A b gM u H → va_S A s.heap H locs → lv_has ls 3 [(0, .ref (b + 0)), (1, .int x1), (2, .int x2)] → W p l e { frames := 4, cells := 0, slots := 0, locals := 88 } s m args below meth c H locs 0 0 (z_End D A b gM below args s (some (.int v)) u') (F0 m 18 ls []) := by
  have hx := C0.1
  have hb := C0.2.1
  intro n
  induction n with
  | zero => intro x1 x2 u H locs ls h hW hS hl; cases h
  | succ n ih =>
    intro x1 x2 u H locs ls h hW hS hl
    rw [f_X11_majority_18_s] at h
    refine lv_iload_n hx hb dX11_majority_18 rfl (lv_at hl 2 rfl) ?_
    refine lv_bipush (v := (16 : Int32)) hx hb dX11_majority_19 (by decide) ?_
    refine lv_icmp_ge (tgt := 56) hx hb dX11_majority_21 (by decide) (fun hc => ?_) (fun hc => ?_)
    · replace h := z_t h hc
      clear hc
      refine lv_iload_n hx hb dX11_majority_56 rfl (lv_at hl 1 rfl) ?_
      cases h
      exact z_iret C0 hr hlk hW hS dX11_majority_57
    · replace h := z_f h hc
      clear hc
      refine lv_aload_n hx hb dX11_majority_24 rfl (lv_at hl 0 rfl) ?_
      refine lv_iload_n hx hb dX11_majority_25 rfl (lv_at hl 2 rfl) ?_
      replace h := z_bd h
      obtain ⟨t3, hq, h⟩ := h
      refine z_cvi (As := [.int x2]) C0 hml hl.1 hW hS (c_X11_isMajor l D A b x2 u hq) mv_X11_309 rfl ⟨Nat.le_of_ble_eq_true rfl, Nat.le_of_ble_eq_true rfl⟩ rfl rfl (Nat.le_of_ble_eq_true rfl) dX11_majority_26 (fun H locs hW hS => ?_)
      clear hq
      refine z_ifeqZ C0 (tgt := 50) dX11_majority_29 (by decide) (fun hc => ?_) (fun hc => ?_)
      · replace h := z_ff h hc
        clear hc
        refine lv_iinc (v := x2 + (1 : Int32)) (lv' := [(2, .int (x2 + (1 : Int32))), (0, .ref (b + 0)), (1, .int x1)]) hx hb dX11_majority_50 hl (k := 2) rfl rfl (by decide) rfl (fun ls hl => ?_)
        refine lv_goto (tgt := 18) hx hb dX11_majority_53 (by decide) ?_
        exact ih _ _ _ _ _ _ h hW hS (lv_sub hl [1, 2, 0] rfl)
      · replace h := z_t h hc
        clear hc
        refine lv_iload_n hx hb dX11_majority_32 rfl (lv_at hl 1 rfl) ?_
        refine lv_iconst (v := (-1 : Int32)) hx hb dX11_majority_33 (by decide) ?_
        refine lv_icmp_eq (tgt := 48) hx hb dX11_majority_34 (by decide) (fun hc => ?_) (fun hc => ?_)
        · replace h := z_t h hc
          clear hc
          refine lv_iload_n hx hb dX11_majority_48 rfl (lv_at hl 2 rfl) ?_
          refine lv_istore_n (lv' := [(1, .int x2), (0, .ref (b + 0)), (2, .int x2)]) hx hb dX11_majority_49 rfl hl (by decide) rfl (fun ls hl => ?_)
          refine lv_iinc (v := x2 + (1 : Int32)) (lv' := [(2, .int (x2 + (1 : Int32))), (1, .int x2), (0, .ref (b + 0))]) hx hb dX11_majority_50 hl (k := 2) rfl rfl (by decide) rfl (fun ls hl => ?_)
          refine lv_goto (tgt := 18) hx hb dX11_majority_53 (by decide) ?_
          exact ih _ _ _ _ _ _ h hW hS (lv_sub hl [2, 1, 0] rfl)
        · replace h := z_f h hc
          clear hc
          refine lv_iload_n hx hb dX11_majority_37 rfl (lv_at hl 2 rfl) ?_
          replace h := z_bd h
          obtain ⟨r4, hq, h⟩ := h
          refine z_csi (As := [.int x2]) C0 hml hl.1 hW hS (c_X11_bits l D A b x2 u hq) ms_X11_57 ⟨Nat.le_of_ble_eq_true rfl, Nat.le_of_ble_eq_true rfl⟩ rfl rfl (Nat.le_of_ble_eq_true rfl) dX11_majority_38 (fun H locs hW hS => ?_)
          clear hq
          refine lv_iload_n hx hb dX11_majority_41 rfl (lv_at hl 1 rfl) ?_
          replace h := z_bd h
          obtain ⟨r5, hq, h⟩ := h
          refine z_csi (As := [.int x1]) C0 hml hl.1 hW hS (c_X11_bits l D A b x1 u hq) ms_X11_57 ⟨Nat.le_of_ble_eq_true rfl, Nat.le_of_ble_eq_true rfl⟩ rfl rfl (Nat.le_of_ble_eq_true rfl) dX11_majority_42 (fun H locs hW hS => ?_)
          clear hq
          refine lv_icmp_ge (tgt := 50) hx hb dX11_majority_45 (by decide) (fun hc => ?_) (fun hc => ?_)
          · replace h := z_t h hc
            clear hc
            refine lv_iinc (v := x2 + (1 : Int32)) (lv' := [(2, .int (x2 + (1 : Int32))), (0, .ref (b + 0)), (1, .int x1)]) hx hb dX11_majority_50 hl (k := 2) rfl rfl (by decide) rfl (fun ls hl => ?_)
            refine lv_goto (tgt := 18) hx hb dX11_majority_53 (by decide) ?_
            exact ih _ _ _ _ _ _ h hW hS (lv_sub hl [1, 2, 0] rfl)
          · replace h := z_f h hc
            clear hc
            refine lv_iload_n hx hb dX11_majority_48 rfl (lv_at hl 2 rfl) ?_
            refine lv_istore_n (lv' := [(1, .int x2), (0, .ref (b + 0)), (2, .int x2)]) hx hb dX11_majority_49 rfl hl (by decide) rfl (fun ls hl => ?_)
            refine lv_iinc (v := x2 + (1 : Int32)) (lv' := [(2, .int (x2 + (1 : Int32))), (1, .int x2), (0, .ref (b + 0))]) hx hb dX11_majority_50 hl (k := 2) rfl rfl (by decide) rfl (fun ls hl => ?_)
            refine lv_goto (tgt := 18) hx hb dX11_majority_53 (by decide) ?_
            exact ih _ _ _ _ _ _ h hW hS (lv_sub hl [2, 1, 0] rfl)
theorem f_X11_majority_e  (u : zU) : f_X11_majority u = z_let (z_up u 0 0 (0 : Int32)) (fun u1 => (f_X11_seated u1).bind (fun r2 => if r2 = 0 then (some ((0 : Int32), u1)) else (f_X11_majority_18 5000 (-1 : Int32) (0 : Int32) u1))) := rfl
set_option maxRecDepth 100000 in
set_option maxHeartbeats 4000000 in
theorem c_X11_majority (l : Launch) (D : zD) (A : Nat → Prop) (b : Nat)  (u : zU) {v : Int32} {u' : zU} (h : f_X11_majority u = some (v, u')) : z_M l D A b gM yX11_majority cX11_majority 3 (some .int) 4 88 [.ref (b + 0)] u (some (.int v)) u' := by
  refine z_enter (by decide) (Nat.le_of_ble_eq_true rfl) ?_
  intro p e s m below meth c ls C0 hr hml hlk hW hS hl
  have hl : lv_has ls 3 [(0, .ref (b + 0))] := hl
  have hx := C0.1
  have hb := C0.2.1
  rw [f_X11_majority_e] at h
  refine lv_aload_n hx hb dX11_majority_0 rfl (lv_at hl 0 rfl) ?_
  refine lv_iconst (v := (0 : Int32)) hx hb dX11_majority_1 (by decide) ?_
  refine z_puti C0 hW hS fl_X11_42 rfl rfl rfl rfl dX11_majority_2 (fun H locs u1 e1 hW hS => ?_)
  replace h := z_ly h e1
  clear e1
  refine lv_aload_n hx hb dX11_majority_5 rfl (lv_at hl 0 rfl) ?_
  replace h := z_bd h
  obtain ⟨r2, hq, h⟩ := h
  refine z_cvi (As := []) C0 hml hl.1 hW hS (c_X11_seated l D A b u1 hq) mv_X11_306 rfl ⟨Nat.le_of_ble_eq_true rfl, Nat.le_of_ble_eq_true rfl⟩ rfl rfl (Nat.le_of_ble_eq_true rfl) dX11_majority_6 (fun H locs hW hS => ?_)
  clear hq
  refine lv_if_ne (tgt := 14) hx hb dX11_majority_9 (by decide) (fun hc => ?_) (fun hc => ?_)
  · replace h := z_f h hc
    clear hc
    refine lv_iconst (v := (-1 : Int32)) hx hb dX11_majority_14 (by decide) ?_
    refine lv_istore_n (lv' := [(1, .int (-1 : Int32)), (0, .ref (b + 0))]) hx hb dX11_majority_15 rfl hl (by decide) rfl (fun ls hl => ?_)
    refine lv_iconst (v := (0 : Int32)) hx hb dX11_majority_16 (by decide) ?_
    refine lv_istore_n (lv' := [(2, .int (0 : Int32)), (1, .int (-1 : Int32)), (0, .ref (b + 0))]) hx hb dX11_majority_17 rfl hl (by decide) rfl (fun ls hl => ?_)
    exact l_X11_majority_18 C0 hr hml hlk 5000 _ _ _ _ _ _ h hW hS (lv_sub hl [2, 1, 0] rfl)
  · replace h := z_t h hc
    clear hc
    refine lv_iconst (v := (0 : Int32)) hx hb dX11_majority_12 (by decide) ?_
    cases h
    exact z_iret C0 hr hlk hW hS dX11_majority_13
def f_X11_affords_9 : Nat → Int32 → Int32 → zU → Option (Int32 × zU)
  | 0, _, _, _ => none
  | n + 1, x1, x2, u =>
    if (8 : Int32) ≤ x2 then (some (x1, u)) else (z_let (f_X11_costOf x2 u) (fun r2 => if (u 1 6) < r2 then (z_let (x1 ||| (0 : Int32)) (fun z3 => f_X11_affords_9 n z3 (x2 + (1 : Int32)) u)) else (z_let (x1 ||| ((1 : Int32) <<< (x2 &&& 31))) (fun z4 => f_X11_affords_9 n z4 (x2 + (1 : Int32)) u))))
theorem f_X11_affords_9_s (n : Nat) (x1 : Int32) (x2 : Int32) (u : zU) : f_X11_affords_9 (n + 1) x1 x2 u = if (8 : Int32) ≤ x2 then (some (x1, u)) else (z_let (f_X11_costOf x2 u) (fun r2 => if (u 1 6) < r2 then (z_let (x1 ||| (0 : Int32)) (fun z3 => f_X11_affords_9 n z3 (x2 + (1 : Int32)) u)) else (z_let (x1 ||| ((1 : Int32) <<< (x2 &&& 31))) (fun z4 => f_X11_affords_9 n z4 (x2 + (1 : Int32)) u)))) := rfl
def f_X11_affords  (u : zU) : Option (Int32 × zU) :=
  z_let (z_up u 0 0 (0 : Int32)) (fun u1 => f_X11_affords_9 5000 (0 : Int32) (0 : Int32) u1)
set_option maxRecDepth 100000 in
set_option maxHeartbeats 4000000 in
theorem l_X11_affords_9 {l : Launch} {D : zD} {A : Nat → Prop} {b : Nat} {p : Program} {e : Env} {s : State} {m : MethodId} {args : Array Value} {below : List Frame} {meth : Method} {c : Code} {v : Int32} {u' : zU} (C0 : z_C p c cX11_affords s m args yX11_affords.cls D A) (hr : meth.sig.returnType = (some .int)) (hml : c.maxLocals = 3) (hlk : meth.locks = false) : ∀ (n : Nat) (x1 : Int32) (x2 : Int32) (u : zU) (H : Heap) (locs : List Loc) (ls : Array Slot), f_X11_affords_9 n x1 x2 u = some (v, u') → z_W D A b gM u H → va_S A s.heap H locs → lv_has ls 3 [(0, .ref (b + 0)), (1, .int x1), (2, .int x2)] → W p l e { frames := 2, cells := 0, slots := 0, locals := 42 } s m args below meth c H locs 0 0 (z_End D A b gM below args s (some (.int v)) u') (F0 m 9 ls []) := by
  have hx := C0.1
  have hb := C0.2.1
  intro n
  induction n with
  | zero => intro x1 x2 u H locs ls h hW hS hl; cases h
  | succ n ih =>
    intro x1 x2 u H locs ls h hW hS hl
    rw [f_X11_affords_9_s] at h
    refine lv_iload_n hx hb dX11_affords_9 rfl (lv_at hl 2 rfl) ?_
    refine lv_bipush (v := (8 : Int32)) hx hb dX11_affords_10 (by decide) ?_
    refine lv_icmp_ge (tgt := 46) hx hb dX11_affords_12 (by decide) (fun hc => ?_) (fun hc => ?_)
    · replace h := z_t h hc
      clear hc
      refine lv_iload_n hx hb dX11_affords_46 rfl (lv_at hl 1 rfl) ?_
      cases h
      exact z_iret C0 hr hlk hW hS dX11_affords_47
    · replace h := z_f h hc
      clear hc
      refine lv_iload_n hx hb dX11_affords_15 rfl (lv_at hl 1 rfl) ?_
      refine lv_aload_n hx hb dX11_affords_16 rfl (lv_at hl 0 rfl) ?_
      refine lv_iload_n hx hb dX11_affords_17 rfl (lv_at hl 2 rfl) ?_
      obtain ⟨r2, hq⟩ : ∃ y, f_X11_costOf x2 u = y := ⟨_, rfl⟩
      replace h := z_lz h hq
      refine z_cvi (As := [.int x2]) C0 hml hl.1 hW hS (c_X11_costOf l D A b x2 u hq) mv_X11_300 rfl ⟨Nat.le_of_ble_eq_true rfl, Nat.le_of_ble_eq_true rfl⟩ rfl rfl (Nat.le_of_ble_eq_true rfl) dX11_affords_18 (fun H locs hW hS => ?_)
      clear hq
      refine lv_aload_n hx hb dX11_affords_21 rfl (lv_at hl 0 rfl) ?_
      refine z_getr (o := 1) C0 hW fl_X11_7 rfl rfl rfl dX11_affords_22 ?_
      refine lv_bipush (v := (6 : Int32)) hx hb dX11_affords_25 (by decide) ?_
      refine z_iald (k := 6) (n := 705) C0 hW rfl rfl (by decide) (by decide) dX11_affords_27 ?_
      refine lv_icmp_gt (tgt := 37) hx hb dX11_affords_28 (by decide) (fun hc => ?_) (fun hc => ?_)
      · replace h := z_t h hc
        clear hc
        refine lv_iconst (v := (0 : Int32)) hx hb dX11_affords_37 (by decide) ?_
        refine lv_ior hx hb dX11_affords_38 ?_
        refine lv_topi (fun z3 e1 => ?_)
        replace h := z_ly h e1
        clear e1
        refine lv_istore_n (lv' := [(1, .int z3), (0, .ref (b + 0)), (2, .int x2)]) hx hb dX11_affords_39 rfl hl (by decide) rfl (fun ls hl => ?_)
        refine lv_iinc (v := x2 + (1 : Int32)) (lv' := [(2, .int (x2 + (1 : Int32))), (1, .int z3), (0, .ref (b + 0))]) hx hb dX11_affords_40 hl (k := 2) rfl rfl (by decide) rfl (fun ls hl => ?_)
        refine lv_goto (tgt := 9) hx hb dX11_affords_43 (by decide) ?_
        exact ih _ _ _ _ _ _ h hW hS (lv_sub hl [2, 1, 0] rfl)
      · replace h := z_f h hc
        clear hc
        refine lv_iconst (v := (1 : Int32)) hx hb dX11_affords_31 (by decide) ?_
        refine lv_iload_n hx hb dX11_affords_32 rfl (lv_at hl 2 rfl) ?_
        refine lv_ishl hx hb dX11_affords_33 ?_
        refine lv_goto (tgt := 38) hx hb dX11_affords_34 (by decide) ?_
        refine lv_ior hx hb dX11_affords_38 ?_
        refine lv_topi (fun z4 e1 => ?_)
        replace h := z_ly h e1
        clear e1
        refine lv_istore_n (lv' := [(1, .int z4), (0, .ref (b + 0)), (2, .int x2)]) hx hb dX11_affords_39 rfl hl (by decide) rfl (fun ls hl => ?_)
        refine lv_iinc (v := x2 + (1 : Int32)) (lv' := [(2, .int (x2 + (1 : Int32))), (1, .int z4), (0, .ref (b + 0))]) hx hb dX11_affords_40 hl (k := 2) rfl rfl (by decide) rfl (fun ls hl => ?_)
        refine lv_goto (tgt := 9) hx hb dX11_affords_43 (by decide) ?_
        exact ih _ _ _ _ _ _ h hW hS (lv_sub hl [2, 1, 0] rfl)
theorem f_X11_affords_e  (u : zU) : f_X11_affords u = z_let (z_up u 0 0 (0 : Int32)) (fun u1 => f_X11_affords_9 5000 (0 : Int32) (0 : Int32) u1) := rfl
set_option maxRecDepth 100000 in
set_option maxHeartbeats 4000000 in
theorem c_X11_affords (l : Launch) (D : zD) (A : Nat → Prop) (b : Nat)  (u : zU) {v : Int32} {u' : zU} (h : f_X11_affords u = some (v, u')) : z_M l D A b gM yX11_affords cX11_affords 3 (some .int) 2 42 [.ref (b + 0)] u (some (.int v)) u' := by
  refine z_enter (by decide) (Nat.le_of_ble_eq_true rfl) ?_
  intro p e s m below meth c ls C0 hr hml hlk hW hS hl
  have hl : lv_has ls 3 [(0, .ref (b + 0))] := hl
  have hx := C0.1
  have hb := C0.2.1
  rw [f_X11_affords_e] at h
  refine lv_aload_n hx hb dX11_affords_0 rfl (lv_at hl 0 rfl) ?_
  refine lv_iconst (v := (0 : Int32)) hx hb dX11_affords_1 (by decide) ?_
  refine z_puti C0 hW hS fl_X11_42 rfl rfl rfl rfl dX11_affords_2 (fun H locs u1 e1 hW hS => ?_)
  replace h := z_ly h e1
  clear e1
  refine lv_iconst (v := (0 : Int32)) hx hb dX11_affords_5 (by decide) ?_
  refine lv_istore_n (lv' := [(1, .int (0 : Int32)), (0, .ref (b + 0))]) hx hb dX11_affords_6 rfl hl (by decide) rfl (fun ls hl => ?_)
  refine lv_iconst (v := (0 : Int32)) hx hb dX11_affords_7 (by decide) ?_
  refine lv_istore_n (lv' := [(2, .int (0 : Int32)), (1, .int (0 : Int32)), (0, .ref (b + 0))]) hx hb dX11_affords_8 rfl hl (by decide) rfl (fun ls hl => ?_)
  exact l_X11_affords_9 C0 hr hml hlk 5000 _ _ _ _ _ _ h hW hS (lv_sub hl [2, 1, 0] rfl)
def f_X11_reign_9 : Nat → Int32 → Int32 → Int32 → zU → Option (Int32 × zU)
  | 0, _, _, _, _ => none
  | n + 1, x1, x2, x3, u =>
    if (u 1 3) ≤ x3 then (some (x2, u)) else ((f_X11_waits x3 u).bind (fun t3 => if t3 = true then (f_X11_reign_9 n x1 x2 (x3 + (1 : Int32)) u) else ((f_X11_of x3 (0 : Int32) u).bind (fun r4 => (f_X11_firstIn r4 u).bind (fun r5 => if r5 = x3 then ((f_X11_of x3 (0 : Int32) u).bind (fun r6 => z_let (f_X11_isOf x1 r6 u) (fun t7 => if t7 = true then (if x2 = (-1 : Int32) then (f_X11_reign_9 n x1 x3 (x3 + (1 : Int32)) u) else ((f_X11_of x3 (2 : Int32) u).bind (fun r8 => (f_X11_of x2 (2 : Int32) u).bind (fun r9 => if r8 ≤ r9 then (f_X11_reign_9 n x1 x2 (x3 + (1 : Int32)) u) else (f_X11_reign_9 n x1 x3 (x3 + (1 : Int32)) u))))) else (f_X11_reign_9 n x1 x2 (x3 + (1 : Int32)) u)))) else (f_X11_reign_9 n x1 x2 (x3 + (1 : Int32)) u))))))
theorem f_X11_reign_9_s (n : Nat) (x1 : Int32) (x2 : Int32) (x3 : Int32) (u : zU) : f_X11_reign_9 (n + 1) x1 x2 x3 u = if (u 1 3) ≤ x3 then (some (x2, u)) else ((f_X11_waits x3 u).bind (fun t3 => if t3 = true then (f_X11_reign_9 n x1 x2 (x3 + (1 : Int32)) u) else ((f_X11_of x3 (0 : Int32) u).bind (fun r4 => (f_X11_firstIn r4 u).bind (fun r5 => if r5 = x3 then ((f_X11_of x3 (0 : Int32) u).bind (fun r6 => z_let (f_X11_isOf x1 r6 u) (fun t7 => if t7 = true then (if x2 = (-1 : Int32) then (f_X11_reign_9 n x1 x3 (x3 + (1 : Int32)) u) else ((f_X11_of x3 (2 : Int32) u).bind (fun r8 => (f_X11_of x2 (2 : Int32) u).bind (fun r9 => if r8 ≤ r9 then (f_X11_reign_9 n x1 x2 (x3 + (1 : Int32)) u) else (f_X11_reign_9 n x1 x3 (x3 + (1 : Int32)) u))))) else (f_X11_reign_9 n x1 x2 (x3 + (1 : Int32)) u)))) else (f_X11_reign_9 n x1 x2 (x3 + (1 : Int32)) u)))))) := rfl
def f_X11_reign  (u : zU) : Option (Int32 × zU) :=
  z_b2 (f_X11_affords u) (fun r1 u2 => f_X11_reign_9 5000 r1 (-1 : Int32) (0 : Int32) u2)
set_option maxRecDepth 100000 in
set_option maxHeartbeats 4000000 in
theorem l_X11_reign_9 {l : Launch} {D : zD} {A : Nat → Prop} {b : Nat} {p : Program} {e : Env} {s : State} {m : MethodId} {args : Array Value} {below : List Frame} {meth : Method} {c : Code} {v : Int32} {u' : zU} (C0 : z_C p c cX11_reign s m args yX11_reign.cls D A) (hr : meth.sig.returnType = (some .int)) (hml : c.maxLocals = 4) (hlk : meth.locks = false) : ∀ (n : Nat) (x1 : Int32) (x2 : Int32) (x3 : Int32) (u : zU) (H : Heap) (locs : List Loc) (ls : Array Slot), f_X11_reign_9 n x1 x2 x3 u = some (v, u') → z_W D A b gM u H → va_S A s.heap H locs → lv_has ls 4 [(0, .ref (b + 0)), (1, .int x1), (2, .int x2), (3, .int x3)] → W p l e { frames := 3, cells := 0, slots := 0, locals := 64 } s m args below meth c H locs 0 0 (z_End D A b gM below args s (some (.int v)) u') (F0 m 9 ls []) := by
  have hx := C0.1
  have hb := C0.2.1
  intro n
  induction n with
  | zero => intro x1 x2 x3 u H locs ls h hW hS hl; cases h
  | succ n ih =>
    intro x1 x2 x3 u H locs ls h hW hS hl
    rw [f_X11_reign_9_s] at h
    refine lv_iload_n hx hb dX11_reign_9 rfl (lv_at hl 3 rfl) ?_
    refine lv_aload_n hx hb dX11_reign_10 rfl (lv_at hl 0 rfl) ?_
    refine z_getr (o := 1) C0 hW fl_X11_7 rfl rfl rfl dX11_reign_11 ?_
    refine lv_iconst (v := (3 : Int32)) hx hb dX11_reign_14 (by decide) ?_
    refine z_iald (k := 3) (n := 705) C0 hW rfl rfl (by decide) (by decide) dX11_reign_15 ?_
    refine lv_icmp_ge (tgt := 85) hx hb dX11_reign_16 (by decide) (fun hc => ?_) (fun hc => ?_)
    · replace h := z_t h hc
      clear hc
      refine lv_iload_n hx hb dX11_reign_85 rfl (lv_at hl 2 rfl) ?_
      cases h
      exact z_iret C0 hr hlk hW hS dX11_reign_86
    · replace h := z_f h hc
      clear hc
      refine lv_aload_n hx hb dX11_reign_19 rfl (lv_at hl 0 rfl) ?_
      refine lv_iload_n hx hb dX11_reign_20 rfl (lv_at hl 3 rfl) ?_
      replace h := z_bd h
      obtain ⟨t3, hq, h⟩ := h
      refine z_cvi (As := [.int x3]) C0 hml hl.1 hW hS (c_X11_waits l D A b x3 u hq) mv_X11_255 rfl ⟨Nat.le_of_ble_eq_true rfl, Nat.le_of_ble_eq_true rfl⟩ rfl rfl (Nat.le_of_ble_eq_true rfl) dX11_reign_21 (fun H locs hW hS => ?_)
      clear hq
      refine z_ifneZ C0 (tgt := 79) dX11_reign_24 (by decide) (fun hc => ?_) (fun hc => ?_)
      · replace h := z_t h hc
        clear hc
        refine lv_iinc (v := x3 + (1 : Int32)) (lv' := [(3, .int (x3 + (1 : Int32))), (0, .ref (b + 0)), (1, .int x1), (2, .int x2)]) hx hb dX11_reign_79 hl (k := 3) rfl rfl (by decide) rfl (fun ls hl => ?_)
        refine lv_goto (tgt := 9) hx hb dX11_reign_82 (by decide) ?_
        exact ih _ _ _ _ _ _ _ h hW hS (lv_sub hl [1, 2, 3, 0] rfl)
      · replace h := z_ff h hc
        clear hc
        refine lv_aload_n hx hb dX11_reign_27 rfl (lv_at hl 0 rfl) ?_
        refine lv_aload_n hx hb dX11_reign_28 rfl (lv_at hl 0 rfl) ?_
        refine lv_iload_n hx hb dX11_reign_29 rfl (lv_at hl 3 rfl) ?_
        refine lv_iconst (v := (0 : Int32)) hx hb dX11_reign_30 (by decide) ?_
        replace h := z_bd h
        obtain ⟨r4, hq, h⟩ := h
        refine z_cvi (As := [.int x3, .int (0 : Int32)]) C0 hml hl.1 hW hS (c_X11_of l D A b x3 (0 : Int32) u hq) mv_X11_49 rfl ⟨Nat.le_of_ble_eq_true rfl, Nat.le_of_ble_eq_true rfl⟩ rfl rfl (Nat.le_of_ble_eq_true rfl) dX11_reign_31 (fun H locs hW hS => ?_)
        clear hq
        replace h := z_bd h
        obtain ⟨r5, hq, h⟩ := h
        refine z_cvi (As := [.int r4]) C0 hml hl.1 hW hS (c_X11_firstIn l D A b r4 u hq) mv_X11_246 rfl ⟨Nat.le_of_ble_eq_true rfl, Nat.le_of_ble_eq_true rfl⟩ rfl rfl (Nat.le_of_ble_eq_true rfl) dX11_reign_34 (fun H locs hW hS => ?_)
        clear hq
        refine lv_iload_n hx hb dX11_reign_37 rfl (lv_at hl 3 rfl) ?_
        refine lv_icmp_ne (tgt := 79) hx hb dX11_reign_38 (by decide) (fun hc => ?_) (fun hc => ?_)
        · replace h := z_f h hc
          clear hc
          refine lv_iinc (v := x3 + (1 : Int32)) (lv' := [(3, .int (x3 + (1 : Int32))), (0, .ref (b + 0)), (1, .int x1), (2, .int x2)]) hx hb dX11_reign_79 hl (k := 3) rfl rfl (by decide) rfl (fun ls hl => ?_)
          refine lv_goto (tgt := 9) hx hb dX11_reign_82 (by decide) ?_
          exact ih _ _ _ _ _ _ _ h hW hS (lv_sub hl [1, 2, 3, 0] rfl)
        · replace h := z_t h hc
          clear hc
          refine lv_iload_n hx hb dX11_reign_41 rfl (lv_at hl 1 rfl) ?_
          refine lv_aload_n hx hb dX11_reign_42 rfl (lv_at hl 0 rfl) ?_
          refine lv_iload_n hx hb dX11_reign_43 rfl (lv_at hl 3 rfl) ?_
          refine lv_iconst (v := (0 : Int32)) hx hb dX11_reign_44 (by decide) ?_
          replace h := z_bd h
          obtain ⟨r6, hq, h⟩ := h
          refine z_cvi (As := [.int x3, .int (0 : Int32)]) C0 hml hl.1 hW hS (c_X11_of l D A b x3 (0 : Int32) u hq) mv_X11_49 rfl ⟨Nat.le_of_ble_eq_true rfl, Nat.le_of_ble_eq_true rfl⟩ rfl rfl (Nat.le_of_ble_eq_true rfl) dX11_reign_45 (fun H locs hW hS => ?_)
          clear hq
          obtain ⟨t7, hq⟩ : ∃ y, f_X11_isOf x1 r6 u = y := ⟨_, rfl⟩
          replace h := z_lz h hq
          refine z_csi (As := [.int x1, .int r6]) C0 hml hl.1 hW hS (c_X11_isOf l D A b x1 r6 u hq) ms_X11_262 ⟨Nat.le_of_ble_eq_true rfl, Nat.le_of_ble_eq_true rfl⟩ rfl rfl (Nat.le_of_ble_eq_true rfl) dX11_reign_48 (fun H locs hW hS => ?_)
          clear hq
          refine z_ifneZ C0 (tgt := 57) dX11_reign_51 (by decide) (fun hc => ?_) (fun hc => ?_)
          · replace h := z_t h hc
            clear hc
            refine lv_iload_n hx hb dX11_reign_57 rfl (lv_at hl 2 rfl) ?_
            refine lv_iconst (v := (-1 : Int32)) hx hb dX11_reign_58 (by decide) ?_
            refine lv_icmp_eq (tgt := 77) hx hb dX11_reign_59 (by decide) (fun hc => ?_) (fun hc => ?_)
            · replace h := z_t h hc
              clear hc
              refine lv_iload_n hx hb dX11_reign_77 rfl (lv_at hl 3 rfl) ?_
              refine lv_istore_n (lv' := [(2, .int x3), (0, .ref (b + 0)), (1, .int x1), (3, .int x3)]) hx hb dX11_reign_78 rfl hl (by decide) rfl (fun ls hl => ?_)
              refine lv_iinc (v := x3 + (1 : Int32)) (lv' := [(3, .int (x3 + (1 : Int32))), (2, .int x3), (0, .ref (b + 0)), (1, .int x1)]) hx hb dX11_reign_79 hl (k := 3) rfl rfl (by decide) rfl (fun ls hl => ?_)
              refine lv_goto (tgt := 9) hx hb dX11_reign_82 (by decide) ?_
              exact ih _ _ _ _ _ _ _ h hW hS (lv_sub hl [2, 3, 1, 0] rfl)
            · replace h := z_f h hc
              clear hc
              refine lv_aload_n hx hb dX11_reign_62 rfl (lv_at hl 0 rfl) ?_
              refine lv_iload_n hx hb dX11_reign_63 rfl (lv_at hl 3 rfl) ?_
              refine lv_iconst (v := (2 : Int32)) hx hb dX11_reign_64 (by decide) ?_
              replace h := z_bd h
              obtain ⟨r8, hq, h⟩ := h
              refine z_cvi (As := [.int x3, .int (2 : Int32)]) C0 hml hl.1 hW hS (c_X11_of l D A b x3 (2 : Int32) u hq) mv_X11_49 rfl ⟨Nat.le_of_ble_eq_true rfl, Nat.le_of_ble_eq_true rfl⟩ rfl rfl (Nat.le_of_ble_eq_true rfl) dX11_reign_65 (fun H locs hW hS => ?_)
              clear hq
              refine lv_aload_n hx hb dX11_reign_68 rfl (lv_at hl 0 rfl) ?_
              refine lv_iload_n hx hb dX11_reign_69 rfl (lv_at hl 2 rfl) ?_
              refine lv_iconst (v := (2 : Int32)) hx hb dX11_reign_70 (by decide) ?_
              replace h := z_bd h
              obtain ⟨r9, hq, h⟩ := h
              refine z_cvi (As := [.int x2, .int (2 : Int32)]) C0 hml hl.1 hW hS (c_X11_of l D A b x2 (2 : Int32) u hq) mv_X11_49 rfl ⟨Nat.le_of_ble_eq_true rfl, Nat.le_of_ble_eq_true rfl⟩ rfl rfl (Nat.le_of_ble_eq_true rfl) dX11_reign_71 (fun H locs hW hS => ?_)
              clear hq
              refine lv_icmp_le (tgt := 79) hx hb dX11_reign_74 (by decide) (fun hc => ?_) (fun hc => ?_)
              · replace h := z_t h hc
                clear hc
                refine lv_iinc (v := x3 + (1 : Int32)) (lv' := [(3, .int (x3 + (1 : Int32))), (0, .ref (b + 0)), (1, .int x1), (2, .int x2)]) hx hb dX11_reign_79 hl (k := 3) rfl rfl (by decide) rfl (fun ls hl => ?_)
                refine lv_goto (tgt := 9) hx hb dX11_reign_82 (by decide) ?_
                exact ih _ _ _ _ _ _ _ h hW hS (lv_sub hl [1, 2, 3, 0] rfl)
              · replace h := z_f h hc
                clear hc
                refine lv_iload_n hx hb dX11_reign_77 rfl (lv_at hl 3 rfl) ?_
                refine lv_istore_n (lv' := [(2, .int x3), (0, .ref (b + 0)), (1, .int x1), (3, .int x3)]) hx hb dX11_reign_78 rfl hl (by decide) rfl (fun ls hl => ?_)
                refine lv_iinc (v := x3 + (1 : Int32)) (lv' := [(3, .int (x3 + (1 : Int32))), (2, .int x3), (0, .ref (b + 0)), (1, .int x1)]) hx hb dX11_reign_79 hl (k := 3) rfl rfl (by decide) rfl (fun ls hl => ?_)
                refine lv_goto (tgt := 9) hx hb dX11_reign_82 (by decide) ?_
                exact ih _ _ _ _ _ _ _ h hW hS (lv_sub hl [2, 3, 1, 0] rfl)
          · replace h := z_ff h hc
            clear hc
            refine lv_goto (tgt := 79) hx hb dX11_reign_54 (by decide) ?_
            refine lv_iinc (v := x3 + (1 : Int32)) (lv' := [(3, .int (x3 + (1 : Int32))), (0, .ref (b + 0)), (1, .int x1), (2, .int x2)]) hx hb dX11_reign_79 hl (k := 3) rfl rfl (by decide) rfl (fun ls hl => ?_)
            refine lv_goto (tgt := 9) hx hb dX11_reign_82 (by decide) ?_
            exact ih _ _ _ _ _ _ _ h hW hS (lv_sub hl [1, 2, 3, 0] rfl)
theorem f_X11_reign_e  (u : zU) : f_X11_reign u = z_b2 (f_X11_affords u) (fun r1 u2 => f_X11_reign_9 5000 r1 (-1 : Int32) (0 : Int32) u2) := rfl
set_option maxRecDepth 100000 in
set_option maxHeartbeats 4000000 in
theorem c_X11_reign (l : Launch) (D : zD) (A : Nat → Prop) (b : Nat)  (u : zU) {v : Int32} {u' : zU} (h : f_X11_reign u = some (v, u')) : z_M l D A b gM yX11_reign cX11_reign 4 (some .int) 3 64 [.ref (b + 0)] u (some (.int v)) u' := by
  refine z_enter (by decide) (Nat.le_of_ble_eq_true rfl) ?_
  intro p e s m below meth c ls C0 hr hml hlk hW hS hl
  have hl : lv_has ls 4 [(0, .ref (b + 0))] := hl
  have hx := C0.1
  have hb := C0.2.1
  rw [f_X11_reign_e] at h
  refine lv_aload_n hx hb dX11_reign_0 rfl (lv_at hl 0 rfl) ?_
  replace h := z_bd2 h
  obtain ⟨r1, u2, hq, h⟩ := h
  refine z_cvi (As := []) C0 hml hl.1 hW hS (c_X11_affords l D A b u hq) mv_X11_335 rfl ⟨Nat.le_of_ble_eq_true rfl, Nat.le_of_ble_eq_true rfl⟩ rfl rfl (Nat.le_of_ble_eq_true rfl) dX11_reign_1 (fun H locs hW hS => ?_)
  clear hq
  refine lv_istore_n (lv' := [(1, .int r1), (0, .ref (b + 0))]) hx hb dX11_reign_4 rfl hl (by decide) rfl (fun ls hl => ?_)
  refine lv_iconst (v := (-1 : Int32)) hx hb dX11_reign_5 (by decide) ?_
  refine lv_istore_n (lv' := [(2, .int (-1 : Int32)), (1, .int r1), (0, .ref (b + 0))]) hx hb dX11_reign_6 rfl hl (by decide) rfl (fun ls hl => ?_)
  refine lv_iconst (v := (0 : Int32)) hx hb dX11_reign_7 (by decide) ?_
  refine lv_istore_n (lv' := [(3, .int (0 : Int32)), (2, .int (-1 : Int32)), (1, .int r1), (0, .ref (b + 0))]) hx hb dX11_reign_8 rfl hl (by decide) rfl (fun ls hl => ?_)
  exact l_X11_reign_9 C0 hr hml hlk 5000 _ _ _ _ _ _ _ h hW hS (lv_sub hl [3, 2, 1, 0] rfl)
def f_X11_canBe (a0 : Int32) (a1 : Int32) (u : zU) : Bool :=
  z_let (z_rem a0 (10 : Int32)) (fun z1 => z_let (f_X11_isIn a1 (z1 + (1 : Int32)) ((z1 + (a0 / (10 : Int32))) + (1 : Int32)) u) (fun t2 => t2))
theorem f_X11_canBe_e (a0 : Int32) (a1 : Int32) (u : zU) : f_X11_canBe a0 a1 u = z_let (z_rem a0 (10 : Int32)) (fun z1 => z_let (f_X11_isIn a1 (z1 + (1 : Int32)) ((z1 + (a0 / (10 : Int32))) + (1 : Int32)) u) (fun t2 => t2)) := rfl
set_option maxRecDepth 100000 in
set_option maxHeartbeats 4000000 in
theorem c_X11_canBe (l : Launch) (D : zD) (A : Nat → Prop) (b : Nat) (a0 : Int32) (a1 : Int32) (u : zU) {v : Bool} (h : f_X11_canBe a0 a1 u = v) : z_M l D A b gM yX11_canBe cX11_canBe 3 (some .boolean) 1 22 [.int a0, .int a1] u (some (.int (bI v))) u := by
  refine z_enter (by decide) (Nat.le_of_ble_eq_true rfl) ?_
  intro p e s m below meth c ls C0 hr hml hlk hW hS hl
  have hl : lv_has ls 3 [(0, .int a0), (1, .int a1)] := hl
  have hx := C0.1
  have hb := C0.2.1
  rw [f_X11_canBe_e] at h
  refine lv_iload_n hx hb dX11_canBe_0 rfl (lv_at hl 0 rfl) ?_
  refine lv_bipush (v := (10 : Int32)) hx hb dX11_canBe_1 (by decide) ?_
  refine lv_irem hx hb dX11_canBe_3 (by decide) ?_
  refine lv_topi (fun z1 e1 => ?_)
  replace h := z_ly h e1
  clear e1
  refine lv_istore_n (lv' := [(2, .int z1), (0, .int a0), (1, .int a1)]) hx hb dX11_canBe_4 rfl hl (by decide) rfl (fun ls hl => ?_)
  refine lv_iload_n hx hb dX11_canBe_5 rfl (lv_at hl 2 rfl) ?_
  refine lv_iload_n hx hb dX11_canBe_6 rfl (lv_at hl 0 rfl) ?_
  refine lv_iconst (v := (1 : Int32)) hx hb dX11_canBe_7 (by decide) ?_
  refine lv_iadd hx hb dX11_canBe_8 ?_
  refine lv_iload_n hx hb dX11_canBe_9 rfl (lv_at hl 0 rfl) ?_
  refine lv_iload_n hx hb dX11_canBe_10 rfl (lv_at hl 1 rfl) ?_
  refine lv_bipush (v := (10 : Int32)) hx hb dX11_canBe_11 (by decide) ?_
  refine lv_idiv hx hb dX11_canBe_13 (by decide) ?_
  refine lv_iadd hx hb dX11_canBe_14 ?_
  refine lv_iconst (v := (1 : Int32)) hx hb dX11_canBe_15 (by decide) ?_
  refine lv_iadd hx hb dX11_canBe_16 ?_
  obtain ⟨t2, hq⟩ : ∃ y, f_X11_isIn a1 (z1 + (1 : Int32)) ((z1 + (a0 / (10 : Int32))) + (1 : Int32)) u = y := ⟨_, rfl⟩
  replace h := z_lz h hq
  refine z_csi (As := [.int a1, .int (z1 + (1 : Int32)), .int ((z1 + (a0 / (10 : Int32))) + (1 : Int32))]) C0 hml hl.1 hW hS (c_X11_isIn l D A b a1 (z1 + (1 : Int32)) ((z1 + (a0 / (10 : Int32))) + (1 : Int32)) u hq) ms_X11_45 ⟨Nat.le_of_ble_eq_true rfl, Nat.le_of_ble_eq_true rfl⟩ rfl rfl (Nat.le_of_ble_eq_true rfl) dX11_canBe_17 (fun H locs hW hS => ?_)
  clear hq
  cases h
  exact z_zret C0 hr hlk hW hS dX11_canBe_20
def f_X11_heard_81 (K : Int32 → Int32 → Int32 → zU → Option (Int32 × zU)) : Nat → Int32 → Int32 → Int32 → Int32 → zU → Option (Int32 × zU)
  | 0, _, _, _, _, _ => none
  | n + 1, x1, x3, x4, x5, u =>
    if x1 ≤ x5 then (if z_in x4 80 = true then (z_let (u 9 (x4).toNatClampNeg) (fun z4 => if z4 = 0 then (z_let (x3 + (0 : Int32)) (fun z5 => K x1 z5 (x4 + (1 : Int32)) u)) else (z_let (x3 + (1 : Int32)) (fun z6 => K x1 z6 (x4 + (1 : Int32)) u)))) else none) else (if z_in x4 80 = true then (z_let (u 9 (x4).toNatClampNeg) (fun z7 => if z7 = 0 then (if z_in x4 80 = true then (z_let (u 9 (x4).toNatClampNeg) (fun z8 => if z8 = 0 then (z_let (x3 + (0 : Int32)) (fun z9 => K x1 z9 (x4 + (1 : Int32)) u)) else (z_let (x3 + (1 : Int32)) (fun z10 => K x1 z10 (x4 + (1 : Int32)) u)))) else none) else (if z_in x5 400 = true then (z_let (u 5 (x5).toNatClampNeg) (fun z11 => z_let (f_X11_canBe x4 z11 u) (fun t12 => if z_in x4 80 = true then (z_let (z_up u 9 (x4).toNatClampNeg (bI t12)) (fun u13 => f_X11_heard_81 K n x1 x3 x4 (x5 + (1 : Int32)) u13)) else none))) else none))) else none)
theorem f_X11_heard_81_s (K : Int32 → Int32 → Int32 → zU → Option (Int32 × zU)) (n : Nat) (x1 : Int32) (x3 : Int32) (x4 : Int32) (x5 : Int32) (u : zU) : f_X11_heard_81 K (n + 1) x1 x3 x4 x5 u = if x1 ≤ x5 then (if z_in x4 80 = true then (z_let (u 9 (x4).toNatClampNeg) (fun z4 => if z4 = 0 then (z_let (x3 + (0 : Int32)) (fun z5 => K x1 z5 (x4 + (1 : Int32)) u)) else (z_let (x3 + (1 : Int32)) (fun z6 => K x1 z6 (x4 + (1 : Int32)) u)))) else none) else (if z_in x4 80 = true then (z_let (u 9 (x4).toNatClampNeg) (fun z7 => if z7 = 0 then (if z_in x4 80 = true then (z_let (u 9 (x4).toNatClampNeg) (fun z8 => if z8 = 0 then (z_let (x3 + (0 : Int32)) (fun z9 => K x1 z9 (x4 + (1 : Int32)) u)) else (z_let (x3 + (1 : Int32)) (fun z10 => K x1 z10 (x4 + (1 : Int32)) u)))) else none) else (if z_in x5 400 = true then (z_let (u 5 (x5).toNatClampNeg) (fun z11 => z_let (f_X11_canBe x4 z11 u) (fun t12 => if z_in x4 80 = true then (z_let (z_up u 9 (x4).toNatClampNeg (bI t12)) (fun u13 => f_X11_heard_81 K n x1 x3 x4 (x5 + (1 : Int32)) u13)) else none))) else none))) else none) := rfl
def f_X11_heard_63 : Nat → Int32 → Int32 → Int32 → zU → Option (Int32 × zU)
  | 0, _, _, _, _ => none
  | n + 1, x1, x3, x4, u =>
    if (80 : Int32) ≤ x4 then (some (x3, u)) else (if z_in x4 80 = true then (z_let (z_up u 9 (x4).toNatClampNeg (1 : Int32)) (fun u3 => f_X11_heard_81 (fun k1 k3 k4 u => f_X11_heard_63 n k1 k3 k4 u) 5000 x1 x3 x4 (0 : Int32) u3)) else none)
theorem f_X11_heard_63_s (n : Nat) (x1 : Int32) (x3 : Int32) (x4 : Int32) (u : zU) : f_X11_heard_63 (n + 1) x1 x3 x4 u = if (80 : Int32) ≤ x4 then (some (x3, u)) else (if z_in x4 80 = true then (z_let (z_up u 9 (x4).toNatClampNeg (1 : Int32)) (fun u3 => f_X11_heard_81 (fun k1 k3 k4 u => f_X11_heard_63 n k1 k3 k4 u) 5000 x1 x3 x4 (0 : Int32) u3)) else none) := rfl
def f_X11_heard_24 : Nat → Int32 → Int32 → Int32 → zU → Option (Int32 × zU)
  | 0, _, _, _, _ => none
  | n + 1, x1, x2, x3, u =>
    if x1 ≤ x3 then (if x2 = 0 then (some ((-1 : Int32), u)) else (f_X11_heard_63 5000 x1 (0 : Int32) (0 : Int32) u)) else (if x2 = 0 then (if x2 = 0 then (some ((-1 : Int32), u)) else (f_X11_heard_63 5000 x1 (0 : Int32) (0 : Int32) u)) else (if z_in x3 400 = true then (z_let (u 5 (x3).toNatClampNeg) (fun z14 => z_let (f_X11_isIn z14 (1 : Int32) (30 : Int32) u) (fun t15 => f_X11_heard_24 n x1 (bI t15) (x3 + (1 : Int32)) u))) else none))
theorem f_X11_heard_24_s (n : Nat) (x1 : Int32) (x2 : Int32) (x3 : Int32) (u : zU) : f_X11_heard_24 (n + 1) x1 x2 x3 u = if x1 ≤ x3 then (if x2 = 0 then (some ((-1 : Int32), u)) else (f_X11_heard_63 5000 x1 (0 : Int32) (0 : Int32) u)) else (if x2 = 0 then (if x2 = 0 then (some ((-1 : Int32), u)) else (f_X11_heard_63 5000 x1 (0 : Int32) (0 : Int32) u)) else (if z_in x3 400 = true then (z_let (u 5 (x3).toNatClampNeg) (fun z14 => z_let (f_X11_isIn z14 (1 : Int32) (30 : Int32) u) (fun t15 => f_X11_heard_24 n x1 (bI t15) (x3 + (1 : Int32)) u))) else none)) := rfl
def f_X11_heard  (u : zU) : Option (Int32 × zU) :=
  z_let (u 0 8) (fun z1 => z_let (z_up u 0 8 (0 : Int32)) (fun u2 => if (40 : Int32) < z1 then (f_X11_heard_24 5000 z1 (0 : Int32) (0 : Int32) u2) else (f_X11_heard_24 5000 z1 (1 : Int32) (0 : Int32) u2)))
set_option maxRecDepth 100000 in
set_option maxHeartbeats 4000000 in
theorem l_X11_heard_81 {l : Launch} {D : zD} {A : Nat → Prop} {b : Nat} {p : Program} {e : Env} {s : State} {m : MethodId} {args : Array Value} {below : List Frame} {meth : Method} {c : Code} {v : Int32} {u' : zU} {K : Int32 → Int32 → Int32 → zU → Option (Int32 × zU)} (C0 : z_C p c cX11_heard s m args yX11_heard.cls D A) (hr : meth.sig.returnType = (some .int)) (hml : c.maxLocals = 6) (hlk : meth.locks = false) (hK : ∀ (x1 : Int32) (x3 : Int32) (x4 : Int32) (u : zU) (H : Heap) (locs : List Loc) (ls : Array Slot), K x1 x3 x4 u = some (v, u') → z_W D A b gM u H → va_S A s.heap H locs → lv_has ls 6 [(0, .ref (b + 0)), (1, .int x1), (3, .int x3), (4, .int x4)] → W p l e { frames := 2, cells := 0, slots := 0, locals := 44 } s m args below meth c H locs 0 0 (z_End D A b gM below args s (some (.int v)) u') (F0 m 63 ls [])) : ∀ (n : Nat) (x1 : Int32) (x3 : Int32) (x4 : Int32) (x5 : Int32) (u : zU) (H : Heap) (locs : List Loc) (ls : Array Slot), f_X11_heard_81 K n x1 x3 x4 x5 u = some (v, u') → z_W D A b gM u H → va_S A s.heap H locs → lv_has ls 6 [(0, .ref (b + 0)), (1, .int x1), (3, .int x3), (4, .int x4), (5, .int x5)] → W p l e { frames := 2, cells := 0, slots := 0, locals := 44 } s m args below meth c H locs 0 0 (z_End D A b gM below args s (some (.int v)) u') (F0 m 81 ls []) := by
  have hx := C0.1
  have hb := C0.2.1
  intro n
  induction n with
  | zero => intro x1 x3 x4 x5 u H locs ls h hW hS hl; cases h
  | succ n ih =>
    intro x1 x3 x4 x5 u H locs ls h hW hS hl
    rw [f_X11_heard_81_s] at h
    refine lv_iload hx hb dX11_heard_81 (lv_at hl 4 rfl) ?_
    refine lv_iload_n hx hb dX11_heard_83 rfl (lv_at hl 1 rfl) ?_
    refine lv_icmp_ge (tgt := 122) hx hb dX11_heard_84 (by decide) (fun hc => ?_) (fun hc => ?_)
    · replace h := z_t h hc
      clear hc
      refine lv_iload_n hx hb dX11_heard_122 rfl (lv_at hl 2 rfl) ?_
      refine lv_aload_n hx hb dX11_heard_123 rfl (lv_at hl 0 rfl) ?_
      refine z_getr (o := 9) C0 hW fl_X11_38 rfl rfl rfl dX11_heard_124 ?_
      refine lv_iload hx hb dX11_heard_127 (lv_at hl 3 rfl) ?_
      replace h := z_if h
      obtain ⟨hin, h⟩ := h
      refine z_zald (n := 80) C0 hW rfl rfl hin rfl dX11_heard_129 ?_
      clear hin
      refine lv_topi (fun z4 e1 => ?_)
      replace h := z_ly h e1
      clear e1
      refine lv_if_eq (tgt := 137) hx hb dX11_heard_130 (by decide) (fun hc => ?_) (fun hc => ?_)
      · replace h := z_t h hc
        clear hc
        refine lv_iconst (v := (0 : Int32)) hx hb dX11_heard_137 (by decide) ?_
        refine lv_iadd hx hb dX11_heard_138 ?_
        refine lv_topi (fun z5 e1 => ?_)
        replace h := z_ly h e1
        clear e1
        refine lv_istore_n (lv' := [(3, .int z5), (0, .ref (b + 0)), (1, .int x1), (4, .int x4), (5, .int x5)]) hx hb dX11_heard_139 rfl hl (by decide) rfl (fun ls hl => ?_)
        refine lv_iinc (v := x4 + (1 : Int32)) (lv' := [(4, .int (x4 + (1 : Int32))), (3, .int z5), (0, .ref (b + 0)), (1, .int x1), (5, .int x5)]) hx hb dX11_heard_140 hl (k := 3) rfl rfl (by decide) rfl (fun ls hl => ?_)
        refine lv_goto (tgt := 63) hx hb dX11_heard_143 (by decide) ?_
        exact hK _ _ _ _ _ _ _ h hW hS (lv_sub hl [2, 3, 1, 0] rfl)
      · replace h := z_f h hc
        clear hc
        refine lv_iconst (v := (1 : Int32)) hx hb dX11_heard_133 (by decide) ?_
        refine lv_goto (tgt := 138) hx hb dX11_heard_134 (by decide) ?_
        refine lv_iadd hx hb dX11_heard_138 ?_
        refine lv_topi (fun z6 e1 => ?_)
        replace h := z_ly h e1
        clear e1
        refine lv_istore_n (lv' := [(3, .int z6), (0, .ref (b + 0)), (1, .int x1), (4, .int x4), (5, .int x5)]) hx hb dX11_heard_139 rfl hl (by decide) rfl (fun ls hl => ?_)
        refine lv_iinc (v := x4 + (1 : Int32)) (lv' := [(4, .int (x4 + (1 : Int32))), (3, .int z6), (0, .ref (b + 0)), (1, .int x1), (5, .int x5)]) hx hb dX11_heard_140 hl (k := 3) rfl rfl (by decide) rfl (fun ls hl => ?_)
        refine lv_goto (tgt := 63) hx hb dX11_heard_143 (by decide) ?_
        exact hK _ _ _ _ _ _ _ h hW hS (lv_sub hl [2, 3, 1, 0] rfl)
    · replace h := z_f h hc
      clear hc
      refine lv_aload_n hx hb dX11_heard_87 rfl (lv_at hl 0 rfl) ?_
      refine z_getr (o := 9) C0 hW fl_X11_38 rfl rfl rfl dX11_heard_88 ?_
      refine lv_iload hx hb dX11_heard_91 (lv_at hl 3 rfl) ?_
      replace h := z_if h
      obtain ⟨hin, h⟩ := h
      refine z_zald (n := 80) C0 hW rfl rfl hin rfl dX11_heard_93 ?_
      clear hin
      refine lv_topi (fun z7 e1 => ?_)
      replace h := z_ly h e1
      clear e1
      refine lv_if_eq (tgt := 122) hx hb dX11_heard_94 (by decide) (fun hc => ?_) (fun hc => ?_)
      · replace h := z_t h hc
        clear hc
        refine lv_iload_n hx hb dX11_heard_122 rfl (lv_at hl 2 rfl) ?_
        refine lv_aload_n hx hb dX11_heard_123 rfl (lv_at hl 0 rfl) ?_
        refine z_getr (o := 9) C0 hW fl_X11_38 rfl rfl rfl dX11_heard_124 ?_
        refine lv_iload hx hb dX11_heard_127 (lv_at hl 3 rfl) ?_
        replace h := z_if h
        obtain ⟨hin, h⟩ := h
        refine z_zald (n := 80) C0 hW rfl rfl hin rfl dX11_heard_129 ?_
        clear hin
        refine lv_topi (fun z8 e1 => ?_)
        replace h := z_ly h e1
        clear e1
        refine lv_if_eq (tgt := 137) hx hb dX11_heard_130 (by decide) (fun hc => ?_) (fun hc => ?_)
        · replace h := z_t h hc
          clear hc
          refine lv_iconst (v := (0 : Int32)) hx hb dX11_heard_137 (by decide) ?_
          refine lv_iadd hx hb dX11_heard_138 ?_
          refine lv_topi (fun z9 e1 => ?_)
          replace h := z_ly h e1
          clear e1
          refine lv_istore_n (lv' := [(3, .int z9), (0, .ref (b + 0)), (1, .int x1), (4, .int x4), (5, .int x5)]) hx hb dX11_heard_139 rfl hl (by decide) rfl (fun ls hl => ?_)
          refine lv_iinc (v := x4 + (1 : Int32)) (lv' := [(4, .int (x4 + (1 : Int32))), (3, .int z9), (0, .ref (b + 0)), (1, .int x1), (5, .int x5)]) hx hb dX11_heard_140 hl (k := 3) rfl rfl (by decide) rfl (fun ls hl => ?_)
          refine lv_goto (tgt := 63) hx hb dX11_heard_143 (by decide) ?_
          exact hK _ _ _ _ _ _ _ h hW hS (lv_sub hl [2, 3, 1, 0] rfl)
        · replace h := z_f h hc
          clear hc
          refine lv_iconst (v := (1 : Int32)) hx hb dX11_heard_133 (by decide) ?_
          refine lv_goto (tgt := 138) hx hb dX11_heard_134 (by decide) ?_
          refine lv_iadd hx hb dX11_heard_138 ?_
          refine lv_topi (fun z10 e1 => ?_)
          replace h := z_ly h e1
          clear e1
          refine lv_istore_n (lv' := [(3, .int z10), (0, .ref (b + 0)), (1, .int x1), (4, .int x4), (5, .int x5)]) hx hb dX11_heard_139 rfl hl (by decide) rfl (fun ls hl => ?_)
          refine lv_iinc (v := x4 + (1 : Int32)) (lv' := [(4, .int (x4 + (1 : Int32))), (3, .int z10), (0, .ref (b + 0)), (1, .int x1), (5, .int x5)]) hx hb dX11_heard_140 hl (k := 3) rfl rfl (by decide) rfl (fun ls hl => ?_)
          refine lv_goto (tgt := 63) hx hb dX11_heard_143 (by decide) ?_
          exact hK _ _ _ _ _ _ _ h hW hS (lv_sub hl [2, 3, 1, 0] rfl)
      · replace h := z_f h hc
        clear hc
        refine lv_aload_n hx hb dX11_heard_97 rfl (lv_at hl 0 rfl) ?_
        refine z_getr (o := 9) C0 hW fl_X11_38 rfl rfl rfl dX11_heard_98 ?_
        refine lv_iload hx hb dX11_heard_101 (lv_at hl 3 rfl) ?_
        refine lv_iload hx hb dX11_heard_103 (lv_at hl 3 rfl) ?_
        refine lv_aload_n hx hb dX11_heard_105 rfl (lv_at hl 0 rfl) ?_
        refine z_getr (o := 5) C0 hW fl_X11_22 rfl rfl rfl dX11_heard_106 ?_
        refine lv_iload hx hb dX11_heard_109 (lv_at hl 4 rfl) ?_
        replace h := z_if h
        obtain ⟨hin, h⟩ := h
        refine z_iald (n := 400) C0 hW rfl rfl hin rfl dX11_heard_111 ?_
        clear hin
        refine lv_topi (fun z11 e1 => ?_)
        replace h := z_ly h e1
        clear e1
        obtain ⟨t12, hq⟩ : ∃ y, f_X11_canBe x4 z11 u = y := ⟨_, rfl⟩
        replace h := z_lz h hq
        refine z_csi (As := [.int x4, .int z11]) C0 hml hl.1 hW hS (c_X11_canBe l D A b x4 z11 u hq) ms_X11_338 ⟨Nat.le_of_ble_eq_true rfl, Nat.le_of_ble_eq_true rfl⟩ rfl rfl (Nat.le_of_ble_eq_true rfl) dX11_heard_112 (fun H locs hW hS => ?_)
        clear hq
        replace h := z_if h
        obtain ⟨hin, h⟩ := h
        refine z_zast (n := 80) C0 hW hS rfl rfl hin rfl (bI_nar _) dX11_heard_115 (fun H locs u13 e1 hW hS => ?_)
        replace h := z_ly h e1
        clear e1
        refine lv_iinc (v := x5 + (1 : Int32)) (lv' := [(5, .int (x5 + (1 : Int32))), (0, .ref (b + 0)), (1, .int x1), (3, .int x3), (4, .int x4)]) hx hb dX11_heard_116 hl (k := 4) rfl rfl (by decide) rfl (fun ls hl => ?_)
        refine lv_goto (tgt := 81) hx hb dX11_heard_119 (by decide) ?_
        exact ih _ _ _ _ _ _ _ _ h hW hS (lv_sub hl [1, 2, 3, 4, 0] rfl)
set_option maxRecDepth 100000 in
set_option maxHeartbeats 4000000 in
theorem l_X11_heard_63 {l : Launch} {D : zD} {A : Nat → Prop} {b : Nat} {p : Program} {e : Env} {s : State} {m : MethodId} {args : Array Value} {below : List Frame} {meth : Method} {c : Code} {v : Int32} {u' : zU} (C0 : z_C p c cX11_heard s m args yX11_heard.cls D A) (hr : meth.sig.returnType = (some .int)) (hml : c.maxLocals = 6) (hlk : meth.locks = false) : ∀ (n : Nat) (x1 : Int32) (x3 : Int32) (x4 : Int32) (u : zU) (H : Heap) (locs : List Loc) (ls : Array Slot), f_X11_heard_63 n x1 x3 x4 u = some (v, u') → z_W D A b gM u H → va_S A s.heap H locs → lv_has ls 6 [(0, .ref (b + 0)), (1, .int x1), (3, .int x3), (4, .int x4)] → W p l e { frames := 2, cells := 0, slots := 0, locals := 44 } s m args below meth c H locs 0 0 (z_End D A b gM below args s (some (.int v)) u') (F0 m 63 ls []) := by
  have hx := C0.1
  have hb := C0.2.1
  intro n
  induction n with
  | zero => intro x1 x3 x4 u H locs ls h hW hS hl; cases h
  | succ n ih =>
    intro x1 x3 x4 u H locs ls h hW hS hl
    rw [f_X11_heard_63_s] at h
    refine lv_iload hx hb dX11_heard_63 (lv_at hl 3 rfl) ?_
    refine lv_bipush (v := (80 : Int32)) hx hb dX11_heard_65 (by decide) ?_
    refine lv_icmp_ge (tgt := 146) hx hb dX11_heard_67 (by decide) (fun hc => ?_) (fun hc => ?_)
    · replace h := z_t h hc
      clear hc
      refine lv_iload_n hx hb dX11_heard_146 rfl (lv_at hl 2 rfl) ?_
      cases h
      exact z_iret C0 hr hlk hW hS dX11_heard_147
    · replace h := z_f h hc
      clear hc
      refine lv_aload_n hx hb dX11_heard_70 rfl (lv_at hl 0 rfl) ?_
      refine z_getr (o := 9) C0 hW fl_X11_38 rfl rfl rfl dX11_heard_71 ?_
      refine lv_iload hx hb dX11_heard_74 (lv_at hl 3 rfl) ?_
      refine lv_iconst (v := (1 : Int32)) hx hb dX11_heard_76 (by decide) ?_
      replace h := z_if h
      obtain ⟨hin, h⟩ := h
      refine z_zast (n := 80) C0 hW hS rfl rfl hin rfl rfl dX11_heard_77 (fun H locs u3 e1 hW hS => ?_)
      replace h := z_ly h e1
      clear e1
      refine lv_iconst (v := (0 : Int32)) hx hb dX11_heard_78 (by decide) ?_
      refine lv_istore (lv' := [(5, .int (0 : Int32)), (0, .ref (b + 0)), (1, .int x1), (3, .int x3), (4, .int x4)]) hx hb dX11_heard_79 hl (by decide) rfl (fun ls hl => ?_)
      exact l_X11_heard_81 C0 hr hml hlk (fun q0 q1 q2 q3 q4 q5 q6 h hW hS hl => ih q0 q1 q2 q3 q4 q5 q6 h hW hS hl) 5000 _ _ _ _ _ _ _ _ h hW hS (lv_sub hl [1, 2, 3, 4, 0] rfl)
set_option maxRecDepth 100000 in
set_option maxHeartbeats 4000000 in
theorem l_X11_heard_24 {l : Launch} {D : zD} {A : Nat → Prop} {b : Nat} {p : Program} {e : Env} {s : State} {m : MethodId} {args : Array Value} {below : List Frame} {meth : Method} {c : Code} {v : Int32} {u' : zU} (C0 : z_C p c cX11_heard s m args yX11_heard.cls D A) (hr : meth.sig.returnType = (some .int)) (hml : c.maxLocals = 6) (hlk : meth.locks = false) : ∀ (n : Nat) (x1 : Int32) (x2 : Int32) (x3 : Int32) (u : zU) (H : Heap) (locs : List Loc) (ls : Array Slot), f_X11_heard_24 n x1 x2 x3 u = some (v, u') → z_W D A b gM u H → va_S A s.heap H locs → lv_has ls 6 [(0, .ref (b + 0)), (1, .int x1), (2, .int x2), (3, .int x3)] → W p l e { frames := 2, cells := 0, slots := 0, locals := 44 } s m args below meth c H locs 0 0 (z_End D A b gM below args s (some (.int v)) u') (F0 m 24 ls []) := by
  have hx := C0.1
  have hb := C0.2.1
  intro n
  induction n with
  | zero => intro x1 x2 x3 u H locs ls h hW hS hl; cases h
  | succ n ih =>
    intro x1 x2 x3 u H locs ls h hW hS hl
    rw [f_X11_heard_24_s] at h
    refine lv_iload_n hx hb dX11_heard_24 rfl (lv_at hl 3 rfl) ?_
    refine lv_iload_n hx hb dX11_heard_25 rfl (lv_at hl 1 rfl) ?_
    refine lv_icmp_ge (tgt := 52) hx hb dX11_heard_26 (by decide) (fun hc => ?_) (fun hc => ?_)
    · replace h := z_t h hc
      clear hc
      refine lv_iload_n hx hb dX11_heard_52 rfl (lv_at hl 2 rfl) ?_
      refine lv_if_ne (tgt := 58) hx hb dX11_heard_53 (by decide) (fun hc => ?_) (fun hc => ?_)
      · replace h := z_f h hc
        clear hc
        refine lv_iconst (v := (0 : Int32)) hx hb dX11_heard_58 (by decide) ?_
        refine lv_istore_n (lv' := [(3, .int (0 : Int32)), (0, .ref (b + 0)), (1, .int x1), (2, .int x2)]) hx hb dX11_heard_59 rfl hl (by decide) rfl (fun ls hl => ?_)
        refine lv_iconst (v := (0 : Int32)) hx hb dX11_heard_60 (by decide) ?_
        refine lv_istore (lv' := [(4, .int (0 : Int32)), (3, .int (0 : Int32)), (0, .ref (b + 0)), (1, .int x1), (2, .int x2)]) hx hb dX11_heard_61 hl (by decide) rfl (fun ls hl => ?_)
        exact l_X11_heard_63 C0 hr hml hlk 5000 _ _ _ _ _ _ _ h hW hS (lv_sub hl [2, 3, 1, 0] rfl)
      · replace h := z_t h hc
        clear hc
        refine lv_iconst (v := (-1 : Int32)) hx hb dX11_heard_56 (by decide) ?_
        cases h
        exact z_iret C0 hr hlk hW hS dX11_heard_57
    · replace h := z_f h hc
      clear hc
      refine lv_iload_n hx hb dX11_heard_29 rfl (lv_at hl 2 rfl) ?_
      refine lv_if_eq (tgt := 52) hx hb dX11_heard_30 (by decide) (fun hc => ?_) (fun hc => ?_)
      · replace h := z_t h hc
        clear hc
        refine lv_iload_n hx hb dX11_heard_52 rfl (lv_at hl 2 rfl) ?_
        refine lv_if_ne (tgt := 58) hx hb dX11_heard_53 (by decide) (fun hc => ?_) (fun hc => ?_)
        · replace h := z_f h hc
          clear hc
          refine lv_iconst (v := (0 : Int32)) hx hb dX11_heard_58 (by decide) ?_
          refine lv_istore_n (lv' := [(3, .int (0 : Int32)), (0, .ref (b + 0)), (1, .int x1), (2, .int x2)]) hx hb dX11_heard_59 rfl hl (by decide) rfl (fun ls hl => ?_)
          refine lv_iconst (v := (0 : Int32)) hx hb dX11_heard_60 (by decide) ?_
          refine lv_istore (lv' := [(4, .int (0 : Int32)), (3, .int (0 : Int32)), (0, .ref (b + 0)), (1, .int x1), (2, .int x2)]) hx hb dX11_heard_61 hl (by decide) rfl (fun ls hl => ?_)
          exact l_X11_heard_63 C0 hr hml hlk 5000 _ _ _ _ _ _ _ h hW hS (lv_sub hl [2, 3, 1, 0] rfl)
        · replace h := z_t h hc
          clear hc
          refine lv_iconst (v := (-1 : Int32)) hx hb dX11_heard_56 (by decide) ?_
          cases h
          exact z_iret C0 hr hlk hW hS dX11_heard_57
      · replace h := z_f h hc
        clear hc
        refine lv_aload_n hx hb dX11_heard_33 rfl (lv_at hl 0 rfl) ?_
        refine z_getr (o := 5) C0 hW fl_X11_22 rfl rfl rfl dX11_heard_34 ?_
        refine lv_iload_n hx hb dX11_heard_37 rfl (lv_at hl 3 rfl) ?_
        replace h := z_if h
        obtain ⟨hin, h⟩ := h
        refine z_iald (n := 400) C0 hW rfl rfl hin rfl dX11_heard_38 ?_
        clear hin
        refine lv_topi (fun z14 e1 => ?_)
        replace h := z_ly h e1
        clear e1
        refine lv_iconst (v := (1 : Int32)) hx hb dX11_heard_39 (by decide) ?_
        refine lv_bipush (v := (30 : Int32)) hx hb dX11_heard_40 (by decide) ?_
        obtain ⟨t15, hq⟩ : ∃ y, f_X11_isIn z14 (1 : Int32) (30 : Int32) u = y := ⟨_, rfl⟩
        replace h := z_lz h hq
        refine z_csi (As := [.int z14, .int (1 : Int32), .int (30 : Int32)]) C0 hml hl.1 hW hS (c_X11_isIn l D A b z14 (1 : Int32) (30 : Int32) u hq) ms_X11_45 ⟨Nat.le_of_ble_eq_true rfl, Nat.le_of_ble_eq_true rfl⟩ rfl rfl (Nat.le_of_ble_eq_true rfl) dX11_heard_42 (fun H locs hW hS => ?_)
        clear hq
        refine lv_istore_n (lv' := [(2, .int (bI t15)), (0, .ref (b + 0)), (1, .int x1), (3, .int x3)]) hx hb dX11_heard_45 rfl hl (by decide) rfl (fun ls hl => ?_)
        refine lv_iinc (v := x3 + (1 : Int32)) (lv' := [(3, .int (x3 + (1 : Int32))), (2, .int (bI t15)), (0, .ref (b + 0)), (1, .int x1)]) hx hb dX11_heard_46 hl (k := 3) rfl rfl (by decide) rfl (fun ls hl => ?_)
        refine lv_goto (tgt := 24) hx hb dX11_heard_49 (by decide) ?_
        exact ih _ _ _ _ _ _ _ h hW hS (lv_sub hl [2, 3, 1, 0] rfl)
theorem f_X11_heard_e  (u : zU) : f_X11_heard u = z_let (u 0 8) (fun z1 => z_let (z_up u 0 8 (0 : Int32)) (fun u2 => if (40 : Int32) < z1 then (f_X11_heard_24 5000 z1 (0 : Int32) (0 : Int32) u2) else (f_X11_heard_24 5000 z1 (1 : Int32) (0 : Int32) u2))) := rfl
set_option maxRecDepth 100000 in
set_option maxHeartbeats 4000000 in
theorem c_X11_heard (l : Launch) (D : zD) (A : Nat → Prop) (b : Nat)  (u : zU) {v : Int32} {u' : zU} (h : f_X11_heard u = some (v, u')) : z_M l D A b gM yX11_heard cX11_heard 6 (some .int) 2 44 [.ref (b + 0)] u (some (.int v)) u' := by
  refine z_enter (by decide) (Nat.le_of_ble_eq_true rfl) ?_
  intro p e s m below meth c ls C0 hr hml hlk hW hS hl
  have hl : lv_has ls 6 [(0, .ref (b + 0))] := hl
  have hx := C0.1
  have hb := C0.2.1
  rw [f_X11_heard_e] at h
  refine lv_aload_n hx hb dX11_heard_0 rfl (lv_at hl 0 rfl) ?_
  refine z_geti C0 hW fl_X11_73 rfl rfl dX11_heard_1 ?_
  refine lv_topi (fun z1 e1 => ?_)
  replace h := z_ly h e1
  clear e1
  refine lv_istore_n (lv' := [(1, .int z1), (0, .ref (b + 0))]) hx hb dX11_heard_4 rfl hl (by decide) rfl (fun ls hl => ?_)
  refine lv_aload_n hx hb dX11_heard_5 rfl (lv_at hl 1 rfl) ?_
  refine lv_iconst (v := (0 : Int32)) hx hb dX11_heard_6 (by decide) ?_
  refine z_puti C0 hW hS fl_X11_73 rfl rfl rfl rfl dX11_heard_7 (fun H locs u2 e1 hW hS => ?_)
  replace h := z_ly h e1
  clear e1
  refine lv_iload_n hx hb dX11_heard_10 rfl (lv_at hl 0 rfl) ?_
  refine lv_bipush (v := (40 : Int32)) hx hb dX11_heard_11 (by decide) ?_
  refine lv_icmp_gt (tgt := 20) hx hb dX11_heard_13 (by decide) (fun hc => ?_) (fun hc => ?_)
  · replace h := z_t h hc
    clear hc
    refine lv_iconst (v := (0 : Int32)) hx hb dX11_heard_20 (by decide) ?_
    refine lv_istore_n (lv' := [(2, .int (0 : Int32)), (1, .int z1), (0, .ref (b + 0))]) hx hb dX11_heard_21 rfl hl (by decide) rfl (fun ls hl => ?_)
    refine lv_iconst (v := (0 : Int32)) hx hb dX11_heard_22 (by decide) ?_
    refine lv_istore_n (lv' := [(3, .int (0 : Int32)), (2, .int (0 : Int32)), (1, .int z1), (0, .ref (b + 0))]) hx hb dX11_heard_23 rfl hl (by decide) rfl (fun ls hl => ?_)
    exact l_X11_heard_24 C0 hr hml hlk 5000 _ _ _ _ _ _ _ h hW hS (lv_sub hl [3, 2, 1, 0] rfl)
  · replace h := z_f h hc
    clear hc
    refine lv_iconst (v := (1 : Int32)) hx hb dX11_heard_16 (by decide) ?_
    refine lv_goto (tgt := 21) hx hb dX11_heard_17 (by decide) ?_
    refine lv_istore_n (lv' := [(2, .int (1 : Int32)), (1, .int z1), (0, .ref (b + 0))]) hx hb dX11_heard_21 rfl hl (by decide) rfl (fun ls hl => ?_)
    refine lv_iconst (v := (0 : Int32)) hx hb dX11_heard_22 (by decide) ?_
    refine lv_istore_n (lv' := [(3, .int (0 : Int32)), (2, .int (1 : Int32)), (1, .int z1), (0, .ref (b + 0))]) hx hb dX11_heard_23 rfl hl (by decide) rfl (fun ls hl => ?_)
    exact l_X11_heard_24 C0 hr hml hlk 5000 _ _ _ _ _ _ _ h hW hS (lv_sub hl [3, 2, 1, 0] rfl)
def f_X11_moves_45 : Nat → Int32 → zU → Option (Int32 × zU)
  | 0, _, _ => none
  | n + 1, x3, u =>
    if (80 : Int32) ≤ x3 then (some ((-1 : Int32), u)) else (if z_in x3 80 = true then (z_let (u 9 (x3).toNatClampNeg) (fun z4 => if z4 = 0 then (f_X11_moves_45 n (x3 + (1 : Int32)) u) else (some ((x3 / (10 : Int32)) + (1 : Int32), u)))) else none)
theorem f_X11_moves_45_s (n : Nat) (x3 : Int32) (u : zU) : f_X11_moves_45 (n + 1) x3 u = if (80 : Int32) ≤ x3 then (some ((-1 : Int32), u)) else (if z_in x3 80 = true then (z_let (u 9 (x3).toNatClampNeg) (fun z4 => if z4 = 0 then (f_X11_moves_45 n (x3 + (1 : Int32)) u) else (some ((x3 / (10 : Int32)) + (1 : Int32), u)))) else none) := rfl
def f_X11_moves (a1 : Bool) (u : zU) : Option (Int32 × zU) :=
  z_b2 (f_X11_heard u) (fun r1 u2 => if r1 = (-1 : Int32) then (z_let (z_up u2 0 0 (1 : Int32)) (fun u5 => if 0 < (u5 0 0) then (if (u5 0 0) ≤ 0 then (some (r1, u5)) else (some ((0 : Int32), u5))) else (if a1 = true then (f_X11_moves_45 5000 (0 : Int32) u5) else (if (u5 0 0) ≤ 0 then (some (r1, u5)) else (some ((0 : Int32), u5)))))) else (z_let (z_up u2 0 0 (0 : Int32)) (fun u3 => if 0 < (u3 0 0) then (if (u3 0 0) ≤ 0 then (some (r1, u3)) else (some ((0 : Int32), u3))) else (if a1 = true then (f_X11_moves_45 5000 (0 : Int32) u3) else (if (u3 0 0) ≤ 0 then (some (r1, u3)) else (some ((0 : Int32), u3)))))))
set_option maxRecDepth 100000 in
set_option maxHeartbeats 4000000 in
theorem l_X11_moves_45 {l : Launch} {D : zD} {A : Nat → Prop} {b : Nat} {p : Program} {e : Env} {s : State} {m : MethodId} {args : Array Value} {below : List Frame} {meth : Method} {c : Code} {v : Int32} {u' : zU} (C0 : z_C p c cX11_moves s m args yX11_moves.cls D A) (hr : meth.sig.returnType = (some .int)) (hml : c.maxLocals = 4) (hlk : meth.locks = false) : ∀ (n : Nat) (x3 : Int32) (u : zU) (H : Heap) (locs : List Loc) (ls : Array Slot), f_X11_moves_45 n x3 u = some (v, u') → z_W D A b gM u H → va_S A s.heap H locs → lv_has ls 4 [(0, .ref (b + 0)), (3, .int x3)] → W p l e { frames := 3, cells := 0, slots := 0, locals := 69 } s m args below meth c H locs 0 0 (z_End D A b gM below args s (some (.int v)) u') (F0 m 45 ls []) := by
  have hx := C0.1
  have hb := C0.2.1
  intro n
  induction n with
  | zero => intro x3 u H locs ls h hW hS hl; cases h
  | succ n ih =>
    intro x3 u H locs ls h hW hS hl
    rw [f_X11_moves_45_s] at h
    refine lv_iload_n hx hb dX11_moves_45 rfl (lv_at hl 1 rfl) ?_
    refine lv_bipush (v := (80 : Int32)) hx hb dX11_moves_46 (by decide) ?_
    refine lv_icmp_ge (tgt := 73) hx hb dX11_moves_48 (by decide) (fun hc => ?_) (fun hc => ?_)
    · replace h := z_t h hc
      clear hc
      refine lv_iconst (v := (-1 : Int32)) hx hb dX11_moves_73 (by decide) ?_
      cases h
      exact z_iret C0 hr hlk hW hS dX11_moves_74
    · replace h := z_f h hc
      clear hc
      refine lv_aload_n hx hb dX11_moves_51 rfl (lv_at hl 0 rfl) ?_
      refine z_getr (o := 9) C0 hW fl_X11_38 rfl rfl rfl dX11_moves_52 ?_
      refine lv_iload_n hx hb dX11_moves_55 rfl (lv_at hl 1 rfl) ?_
      replace h := z_if h
      obtain ⟨hin, h⟩ := h
      refine z_zald (n := 80) C0 hW rfl rfl hin rfl dX11_moves_56 ?_
      clear hin
      refine lv_topi (fun z4 e1 => ?_)
      replace h := z_ly h e1
      clear e1
      refine lv_if_eq (tgt := 67) hx hb dX11_moves_57 (by decide) (fun hc => ?_) (fun hc => ?_)
      · replace h := z_t h hc
        clear hc
        refine lv_iinc (v := x3 + (1 : Int32)) (lv' := [(3, .int (x3 + (1 : Int32))), (0, .ref (b + 0))]) hx hb dX11_moves_67 hl (k := 1) rfl rfl (by decide) rfl (fun ls hl => ?_)
        refine lv_goto (tgt := 45) hx hb dX11_moves_70 (by decide) ?_
        exact ih _ _ _ _ _ h hW hS (lv_sub hl [1, 0] rfl)
      · replace h := z_f h hc
        clear hc
        refine lv_iload_n hx hb dX11_moves_60 rfl (lv_at hl 1 rfl) ?_
        refine lv_bipush (v := (10 : Int32)) hx hb dX11_moves_61 (by decide) ?_
        refine lv_idiv hx hb dX11_moves_63 (by decide) ?_
        refine lv_iconst (v := (1 : Int32)) hx hb dX11_moves_64 (by decide) ?_
        refine lv_iadd hx hb dX11_moves_65 ?_
        cases h
        exact z_iret C0 hr hlk hW hS dX11_moves_66
theorem f_X11_moves_e (a1 : Bool) (u : zU) : f_X11_moves a1 u = z_b2 (f_X11_heard u) (fun r1 u2 => if r1 = (-1 : Int32) then (z_let (z_up u2 0 0 (1 : Int32)) (fun u5 => if 0 < (u5 0 0) then (if (u5 0 0) ≤ 0 then (some (r1, u5)) else (some ((0 : Int32), u5))) else (if a1 = true then (f_X11_moves_45 5000 (0 : Int32) u5) else (if (u5 0 0) ≤ 0 then (some (r1, u5)) else (some ((0 : Int32), u5)))))) else (z_let (z_up u2 0 0 (0 : Int32)) (fun u3 => if 0 < (u3 0 0) then (if (u3 0 0) ≤ 0 then (some (r1, u3)) else (some ((0 : Int32), u3))) else (if a1 = true then (f_X11_moves_45 5000 (0 : Int32) u3) else (if (u3 0 0) ≤ 0 then (some (r1, u3)) else (some ((0 : Int32), u3))))))) := rfl
set_option maxRecDepth 100000 in
set_option maxHeartbeats 4000000 in
theorem c_X11_moves (l : Launch) (D : zD) (A : Nat → Prop) (b : Nat) (a1 : Bool) (u : zU) {v : Int32} {u' : zU} (h : f_X11_moves a1 u = some (v, u')) : z_M l D A b gM yX11_moves cX11_moves 4 (some .int) 3 69 [.ref (b + 0), .int (bI a1)] u (some (.int v)) u' := by
  refine z_enter (by decide) (Nat.le_of_ble_eq_true rfl) ?_
  intro p e s m below meth c ls C0 hr hml hlk hW hS hl
  have hl : lv_has ls 4 [(0, .ref (b + 0)), (1, .int (bI a1))] := hl
  have hx := C0.1
  have hb := C0.2.1
  rw [f_X11_moves_e] at h
  refine lv_aload_n hx hb dX11_moves_0 rfl (lv_at hl 0 rfl) ?_
  replace h := z_bd2 h
  obtain ⟨r1, u2, hq, h⟩ := h
  refine z_cvi (As := []) C0 hml hl.1 hW hS (c_X11_heard l D A b u hq) mv_X11_341 rfl ⟨Nat.le_of_ble_eq_true rfl, Nat.le_of_ble_eq_true rfl⟩ rfl rfl (Nat.le_of_ble_eq_true rfl) dX11_moves_1 (fun H locs hW hS => ?_)
  clear hq
  refine lv_istore_n (lv' := [(2, .int r1), (0, .ref (b + 0)), (1, .int (bI a1))]) hx hb dX11_moves_4 rfl hl (by decide) rfl (fun ls hl => ?_)
  refine lv_aload_n hx hb dX11_moves_5 rfl (lv_at hl 1 rfl) ?_
  refine lv_iload_n hx hb dX11_moves_6 rfl (lv_at hl 0 rfl) ?_
  refine lv_iconst (v := (-1 : Int32)) hx hb dX11_moves_7 (by decide) ?_
  refine lv_icmp_ne (tgt := 15) hx hb dX11_moves_8 (by decide) (fun hc => ?_) (fun hc => ?_)
  · replace h := z_f h hc
    clear hc
    refine lv_iconst (v := (0 : Int32)) hx hb dX11_moves_15 (by decide) ?_
    refine z_puti C0 hW hS fl_X11_42 rfl rfl rfl rfl dX11_moves_16 (fun H locs u3 e1 hW hS => ?_)
    replace h := z_ly h e1
    clear e1
    refine lv_aload_n hx hb dX11_moves_19 rfl (lv_at hl 1 rfl) ?_
    refine z_geti C0 hW fl_X11_42 rfl rfl dX11_moves_20 ?_
    refine lv_if_gt (tgt := 30) hx hb dX11_moves_23 (by decide) (fun hc => ?_) (fun hc => ?_)
    · replace h := z_t h hc
      clear hc
      refine lv_aload_n hx hb dX11_moves_30 rfl (lv_at hl 1 rfl) ?_
      refine z_geti C0 hW fl_X11_42 rfl rfl dX11_moves_31 ?_
      refine lv_if_le (tgt := 41) hx hb dX11_moves_34 (by decide) (fun hc => ?_) (fun hc => ?_)
      · replace h := z_t h hc
        clear hc
        refine lv_iload_n hx hb dX11_moves_41 rfl (lv_at hl 0 rfl) ?_
        cases h
        exact z_iret C0 hr hlk hW hS dX11_moves_42
      · replace h := z_f h hc
        clear hc
        refine lv_iconst (v := (0 : Int32)) hx hb dX11_moves_37 (by decide) ?_
        refine lv_goto (tgt := 42) hx hb dX11_moves_38 (by decide) ?_
        cases h
        exact z_iret C0 hr hlk hW hS dX11_moves_42
    · replace h := z_f h hc
      clear hc
      refine lv_iload_n hx hb dX11_moves_26 rfl (lv_at hl 2 rfl) ?_
      refine z_ifneZ C0 (tgt := 43) dX11_moves_27 (by decide) (fun hc => ?_) (fun hc => ?_)
      · replace h := z_t h hc
        clear hc
        refine lv_iconst (v := (0 : Int32)) hx hb dX11_moves_43 (by decide) ?_
        refine lv_istore_n (lv' := [(3, .int (0 : Int32)), (2, .int r1), (0, .ref (b + 0)), (1, .int (bI a1))]) hx hb dX11_moves_44 rfl hl (by decide) rfl (fun ls hl => ?_)
        exact l_X11_moves_45 C0 hr hml hlk 5000 _ _ _ _ _ h hW hS (lv_sub hl [2, 0] rfl)
      · replace h := z_ff h hc
        clear hc
        refine lv_aload_n hx hb dX11_moves_30 rfl (lv_at hl 1 rfl) ?_
        refine z_geti C0 hW fl_X11_42 rfl rfl dX11_moves_31 ?_
        refine lv_if_le (tgt := 41) hx hb dX11_moves_34 (by decide) (fun hc => ?_) (fun hc => ?_)
        · replace h := z_t h hc
          clear hc
          refine lv_iload_n hx hb dX11_moves_41 rfl (lv_at hl 0 rfl) ?_
          cases h
          exact z_iret C0 hr hlk hW hS dX11_moves_42
        · replace h := z_f h hc
          clear hc
          refine lv_iconst (v := (0 : Int32)) hx hb dX11_moves_37 (by decide) ?_
          refine lv_goto (tgt := 42) hx hb dX11_moves_38 (by decide) ?_
          cases h
          exact z_iret C0 hr hlk hW hS dX11_moves_42
  · replace h := z_t h hc
    clear hc
    refine lv_iconst (v := (1 : Int32)) hx hb dX11_moves_11 (by decide) ?_
    refine lv_goto (tgt := 16) hx hb dX11_moves_12 (by decide) ?_
    refine z_puti C0 hW hS fl_X11_42 rfl rfl rfl rfl dX11_moves_16 (fun H locs u5 e1 hW hS => ?_)
    replace h := z_ly h e1
    clear e1
    refine lv_aload_n hx hb dX11_moves_19 rfl (lv_at hl 1 rfl) ?_
    refine z_geti C0 hW fl_X11_42 rfl rfl dX11_moves_20 ?_
    refine lv_if_gt (tgt := 30) hx hb dX11_moves_23 (by decide) (fun hc => ?_) (fun hc => ?_)
    · replace h := z_t h hc
      clear hc
      refine lv_aload_n hx hb dX11_moves_30 rfl (lv_at hl 1 rfl) ?_
      refine z_geti C0 hW fl_X11_42 rfl rfl dX11_moves_31 ?_
      refine lv_if_le (tgt := 41) hx hb dX11_moves_34 (by decide) (fun hc => ?_) (fun hc => ?_)
      · replace h := z_t h hc
        clear hc
        refine lv_iload_n hx hb dX11_moves_41 rfl (lv_at hl 0 rfl) ?_
        cases h
        exact z_iret C0 hr hlk hW hS dX11_moves_42
      · replace h := z_f h hc
        clear hc
        refine lv_iconst (v := (0 : Int32)) hx hb dX11_moves_37 (by decide) ?_
        refine lv_goto (tgt := 42) hx hb dX11_moves_38 (by decide) ?_
        cases h
        exact z_iret C0 hr hlk hW hS dX11_moves_42
    · replace h := z_f h hc
      clear hc
      refine lv_iload_n hx hb dX11_moves_26 rfl (lv_at hl 2 rfl) ?_
      refine z_ifneZ C0 (tgt := 43) dX11_moves_27 (by decide) (fun hc => ?_) (fun hc => ?_)
      · replace h := z_t h hc
        clear hc
        refine lv_iconst (v := (0 : Int32)) hx hb dX11_moves_43 (by decide) ?_
        refine lv_istore_n (lv' := [(3, .int (0 : Int32)), (2, .int r1), (0, .ref (b + 0)), (1, .int (bI a1))]) hx hb dX11_moves_44 rfl hl (by decide) rfl (fun ls hl => ?_)
        exact l_X11_moves_45 C0 hr hml hlk 5000 _ _ _ _ _ h hW hS (lv_sub hl [2, 0] rfl)
      · replace h := z_ff h hc
        clear hc
        refine lv_aload_n hx hb dX11_moves_30 rfl (lv_at hl 1 rfl) ?_
        refine z_geti C0 hW fl_X11_42 rfl rfl dX11_moves_31 ?_
        refine lv_if_le (tgt := 41) hx hb dX11_moves_34 (by decide) (fun hc => ?_) (fun hc => ?_)
        · replace h := z_t h hc
          clear hc
          refine lv_iload_n hx hb dX11_moves_41 rfl (lv_at hl 0 rfl) ?_
          cases h
          exact z_iret C0 hr hlk hW hS dX11_moves_42
        · replace h := z_f h hc
          clear hc
          refine lv_iconst (v := (0 : Int32)) hx hb dX11_moves_37 (by decide) ?_
          refine lv_goto (tgt := 42) hx hb dX11_moves_38 (by decide) ?_
          cases h
          exact z_iret C0 hr hlk hW hS dX11_moves_42
def f_X11_watch_55 (K : Int32 → Int32 → Int32 → Int32 → zU → Option (Int32 × zU)) : Nat → Int32 → Int32 → Int32 → Int32 → Int32 → Int32 → zU → Option (Int32 × zU)
  | 0, _, _, _, _, _, _, _ => none
  | n + 1, x1, x2, x3, x4, x5, x6, u =>
    if (80 : Int32) ≤ x6 then (z_let (f_X11_greater x5 (x1 - x5) u) (fun r4 => if r4 < x3 then (z_let (f_X11_greater x5 (x1 - x5) u) (fun r5 => K x1 x4 r5 (x4 + (1 : Int32)) u)) else (K x1 x2 x3 (x4 + (1 : Int32)) u))) else (if z_in x6 80 = true then (z_let (u 9 (x6).toNatClampNeg) (fun z6 => if z6 = 0 then (z_let (x5 + (0 : Int32)) (fun z7 => f_X11_watch_55 K n x1 x2 x3 x4 z7 (x6 + (1 : Int32)) u)) else (z_let (f_X11_canBe x6 x4 u) (fun t8 => if t8 = true then (z_let (x5 + (1 : Int32)) (fun z10 => f_X11_watch_55 K n x1 x2 x3 x4 z10 (x6 + (1 : Int32)) u)) else (z_let (x5 + (0 : Int32)) (fun z9 => f_X11_watch_55 K n x1 x2 x3 x4 z9 (x6 + (1 : Int32)) u)))))) else none)
theorem f_X11_watch_55_s (K : Int32 → Int32 → Int32 → Int32 → zU → Option (Int32 × zU)) (n : Nat) (x1 : Int32) (x2 : Int32) (x3 : Int32) (x4 : Int32) (x5 : Int32) (x6 : Int32) (u : zU) : f_X11_watch_55 K (n + 1) x1 x2 x3 x4 x5 x6 u = if (80 : Int32) ≤ x6 then (z_let (f_X11_greater x5 (x1 - x5) u) (fun r4 => if r4 < x3 then (z_let (f_X11_greater x5 (x1 - x5) u) (fun r5 => K x1 x4 r5 (x4 + (1 : Int32)) u)) else (K x1 x2 x3 (x4 + (1 : Int32)) u))) else (if z_in x6 80 = true then (z_let (u 9 (x6).toNatClampNeg) (fun z6 => if z6 = 0 then (z_let (x5 + (0 : Int32)) (fun z7 => f_X11_watch_55 K n x1 x2 x3 x4 z7 (x6 + (1 : Int32)) u)) else (z_let (f_X11_canBe x6 x4 u) (fun t8 => if t8 = true then (z_let (x5 + (1 : Int32)) (fun z10 => f_X11_watch_55 K n x1 x2 x3 x4 z10 (x6 + (1 : Int32)) u)) else (z_let (x5 + (0 : Int32)) (fun z9 => f_X11_watch_55 K n x1 x2 x3 x4 z9 (x6 + (1 : Int32)) u)))))) else none) := rfl
def f_X11_watch_37 : Nat → Int32 → Int32 → Int32 → Int32 → zU → Option (Int32 × zU)
  | 0, _, _, _, _, _ => none
  | n + 1, x1, x2, x3, x4, u =>
    if (17 : Int32) < x4 then (some (x2, u)) else (if x1 ≤ (1 : Int32) then (some (x2, u)) else (f_X11_watch_55 (fun k1 k2 k3 k4 u => f_X11_watch_37 n k1 k2 k3 k4 u) 5000 x1 x2 x3 x4 (0 : Int32) (0 : Int32) u))
theorem f_X11_watch_37_s (n : Nat) (x1 : Int32) (x2 : Int32) (x3 : Int32) (x4 : Int32) (u : zU) : f_X11_watch_37 (n + 1) x1 x2 x3 x4 u = if (17 : Int32) < x4 then (some (x2, u)) else (if x1 ≤ (1 : Int32) then (some (x2, u)) else (f_X11_watch_55 (fun k1 k2 k3 k4 u => f_X11_watch_37 n k1 k2 k3 k4 u) 5000 x1 x2 x3 x4 (0 : Int32) (0 : Int32) u)) := rfl
def f_X11_watch  (u : zU) : Option (Int32 × zU) :=
  z_b2 (f_X11_heard u) (fun r1 u2 => if r1 = (-1 : Int32) then (z_let (z_up u2 0 0 (1 : Int32)) (fun u11 => if (u11 0 0) ≤ 0 then (f_X11_watch_37 5000 r1 (-1 : Int32) (2000000000 : Int32) (1 : Int32) u11) else (some ((0 : Int32), u11)))) else (z_let (z_up u2 0 0 (0 : Int32)) (fun u3 => if (u3 0 0) ≤ 0 then (f_X11_watch_37 5000 r1 (-1 : Int32) (2000000000 : Int32) (1 : Int32) u3) else (some ((0 : Int32), u3)))))
set_option maxRecDepth 100000 in
set_option maxHeartbeats 4000000 in
theorem l_X11_watch_55 {l : Launch} {D : zD} {A : Nat → Prop} {b : Nat} {p : Program} {e : Env} {s : State} {m : MethodId} {args : Array Value} {below : List Frame} {meth : Method} {c : Code} {v : Int32} {u' : zU} {K : Int32 → Int32 → Int32 → Int32 → zU → Option (Int32 × zU)} (C0 : z_C p c cX11_watch s m args yX11_watch.cls D A) (hr : meth.sig.returnType = (some .int)) (hml : c.maxLocals = 7) (hlk : meth.locks = false) (hK : ∀ (x1 : Int32) (x2 : Int32) (x3 : Int32) (x4 : Int32) (u : zU) (H : Heap) (locs : List Loc) (ls : Array Slot), K x1 x2 x3 x4 u = some (v, u') → z_W D A b gM u H → va_S A s.heap H locs → lv_has ls 7 [(0, .ref (b + 0)), (1, .int x1), (2, .int x2), (3, .int x3), (4, .int x4)] → W p l e { frames := 3, cells := 0, slots := 0, locals := 69 } s m args below meth c H locs 0 0 (z_End D A b gM below args s (some (.int v)) u') (F0 m 37 ls [])) : ∀ (n : Nat) (x1 : Int32) (x2 : Int32) (x3 : Int32) (x4 : Int32) (x5 : Int32) (x6 : Int32) (u : zU) (H : Heap) (locs : List Loc) (ls : Array Slot), f_X11_watch_55 K n x1 x2 x3 x4 x5 x6 u = some (v, u') → z_W D A b gM u H → va_S A s.heap H locs → lv_has ls 7 [(0, .ref (b + 0)), (1, .int x1), (2, .int x2), (3, .int x3), (4, .int x4), (5, .int x5), (6, .int x6)] → W p l e { frames := 3, cells := 0, slots := 0, locals := 69 } s m args below meth c H locs 0 0 (z_End D A b gM below args s (some (.int v)) u') (F0 m 55 ls []) := by
  have hx := C0.1
  have hb := C0.2.1
  intro n
  induction n with
  | zero => intro x1 x2 x3 x4 x5 x6 u H locs ls h hW hS hl; cases h
  | succ n ih =>
    intro x1 x2 x3 x4 x5 x6 u H locs ls h hW hS hl
    rw [f_X11_watch_55_s] at h
    refine lv_iload hx hb dX11_watch_55 (lv_at hl 6 rfl) ?_
    refine lv_bipush (v := (80 : Int32)) hx hb dX11_watch_57 (by decide) ?_
    refine lv_icmp_ge (tgt := 98) hx hb dX11_watch_59 (by decide) (fun hc => ?_) (fun hc => ?_)
    · replace h := z_t h hc
      clear hc
      refine lv_iload hx hb dX11_watch_98 (lv_at hl 5 rfl) ?_
      refine lv_iload_n hx hb dX11_watch_100 rfl (lv_at hl 1 rfl) ?_
      refine lv_iload hx hb dX11_watch_101 (lv_at hl 5 rfl) ?_
      refine lv_isub hx hb dX11_watch_103 ?_
      obtain ⟨r4, hq⟩ : ∃ y, f_X11_greater x5 (x1 - x5) u = y := ⟨_, rfl⟩
      replace h := z_lz h hq
      refine z_csi (As := [.int x5, .int (x1 - x5)]) C0 hml hl.1 hW hS (c_X11_greater l D A b x5 (x1 - x5) u hq) ms_X11_258 ⟨Nat.le_of_ble_eq_true rfl, Nat.le_of_ble_eq_true rfl⟩ rfl rfl (Nat.le_of_ble_eq_true rfl) dX11_watch_104 (fun H locs hW hS => ?_)
      clear hq
      refine lv_iload_n hx hb dX11_watch_107 rfl (lv_at hl 3 rfl) ?_
      refine lv_icmp_lt (tgt := 114) hx hb dX11_watch_108 (by decide) (fun hc => ?_) (fun hc => ?_)
      · replace h := z_t h hc
        clear hc
        refine lv_iload hx hb dX11_watch_114 (lv_at hl 5 rfl) ?_
        refine lv_iload_n hx hb dX11_watch_116 rfl (lv_at hl 1 rfl) ?_
        refine lv_iload hx hb dX11_watch_117 (lv_at hl 5 rfl) ?_
        refine lv_isub hx hb dX11_watch_119 ?_
        obtain ⟨r5, hq⟩ : ∃ y, f_X11_greater x5 (x1 - x5) u = y := ⟨_, rfl⟩
        replace h := z_lz h hq
        refine z_csi (As := [.int x5, .int (x1 - x5)]) C0 hml hl.1 hW hS (c_X11_greater l D A b x5 (x1 - x5) u hq) ms_X11_258 ⟨Nat.le_of_ble_eq_true rfl, Nat.le_of_ble_eq_true rfl⟩ rfl rfl (Nat.le_of_ble_eq_true rfl) dX11_watch_120 (fun H locs hW hS => ?_)
        clear hq
        refine lv_istore_n (lv' := [(3, .int r5), (0, .ref (b + 0)), (1, .int x1), (2, .int x2), (4, .int x4), (5, .int x5), (6, .int x6)]) hx hb dX11_watch_123 rfl hl (by decide) rfl (fun ls hl => ?_)
        refine lv_iload hx hb dX11_watch_124 (lv_at hl 4 rfl) ?_
        refine lv_istore_n (lv' := [(2, .int x4), (3, .int r5), (0, .ref (b + 0)), (1, .int x1), (4, .int x4), (5, .int x5), (6, .int x6)]) hx hb dX11_watch_126 rfl hl (by decide) rfl (fun ls hl => ?_)
        refine lv_iinc (v := x4 + (1 : Int32)) (lv' := [(4, .int (x4 + (1 : Int32))), (2, .int x4), (3, .int r5), (0, .ref (b + 0)), (1, .int x1), (5, .int x5), (6, .int x6)]) hx hb dX11_watch_127 hl (k := 4) rfl rfl (by decide) rfl (fun ls hl => ?_)
        refine lv_goto (tgt := 37) hx hb dX11_watch_130 (by decide) ?_
        exact hK _ _ _ _ _ _ _ _ h hW hS (lv_sub hl [3, 4, 1, 2, 0] rfl)
      · replace h := z_f h hc
        clear hc
        refine lv_goto (tgt := 127) hx hb dX11_watch_111 (by decide) ?_
        refine lv_iinc (v := x4 + (1 : Int32)) (lv' := [(4, .int (x4 + (1 : Int32))), (0, .ref (b + 0)), (1, .int x1), (2, .int x2), (3, .int x3), (5, .int x5), (6, .int x6)]) hx hb dX11_watch_127 hl (k := 4) rfl rfl (by decide) rfl (fun ls hl => ?_)
        refine lv_goto (tgt := 37) hx hb dX11_watch_130 (by decide) ?_
        exact hK _ _ _ _ _ _ _ _ h hW hS (lv_sub hl [1, 2, 3, 4, 0] rfl)
    · replace h := z_f h hc
      clear hc
      refine lv_iload hx hb dX11_watch_62 (lv_at hl 5 rfl) ?_
      refine lv_aload_n hx hb dX11_watch_64 rfl (lv_at hl 0 rfl) ?_
      refine z_getr (o := 9) C0 hW fl_X11_38 rfl rfl rfl dX11_watch_65 ?_
      refine lv_iload hx hb dX11_watch_68 (lv_at hl 6 rfl) ?_
      replace h := z_if h
      obtain ⟨hin, h⟩ := h
      refine z_zald (n := 80) C0 hW rfl rfl hin rfl dX11_watch_70 ?_
      clear hin
      refine lv_topi (fun z6 e1 => ?_)
      replace h := z_ly h e1
      clear e1
      refine lv_if_eq (tgt := 88) hx hb dX11_watch_71 (by decide) (fun hc => ?_) (fun hc => ?_)
      · replace h := z_t h hc
        clear hc
        refine lv_iconst (v := (0 : Int32)) hx hb dX11_watch_88 (by decide) ?_
        refine lv_iadd hx hb dX11_watch_89 ?_
        refine lv_topi (fun z7 e1 => ?_)
        replace h := z_ly h e1
        clear e1
        refine lv_istore (lv' := [(5, .int z7), (0, .ref (b + 0)), (1, .int x1), (2, .int x2), (3, .int x3), (4, .int x4), (6, .int x6)]) hx hb dX11_watch_90 hl (by decide) rfl (fun ls hl => ?_)
        refine lv_iinc (v := x6 + (1 : Int32)) (lv' := [(6, .int (x6 + (1 : Int32))), (5, .int z7), (0, .ref (b + 0)), (1, .int x1), (2, .int x2), (3, .int x3), (4, .int x4)]) hx hb dX11_watch_92 hl (k := 6) rfl rfl (by decide) rfl (fun ls hl => ?_)
        refine lv_goto (tgt := 55) hx hb dX11_watch_95 (by decide) ?_
        exact ih _ _ _ _ _ _ _ _ _ _ h hW hS (lv_sub hl [2, 3, 4, 5, 6, 1, 0] rfl)
      · replace h := z_f h hc
        clear hc
        refine lv_iload hx hb dX11_watch_74 (lv_at hl 6 rfl) ?_
        refine lv_iload hx hb dX11_watch_76 (lv_at hl 4 rfl) ?_
        obtain ⟨t8, hq⟩ : ∃ y, f_X11_canBe x6 x4 u = y := ⟨_, rfl⟩
        replace h := z_lz h hq
        refine z_csi (As := [.int x6, .int x4]) C0 hml hl.1 hW hS (c_X11_canBe l D A b x6 x4 u hq) ms_X11_338 ⟨Nat.le_of_ble_eq_true rfl, Nat.le_of_ble_eq_true rfl⟩ rfl rfl (Nat.le_of_ble_eq_true rfl) dX11_watch_78 (fun H locs hW hS => ?_)
        clear hq
        refine z_ifeqZ C0 (tgt := 88) dX11_watch_81 (by decide) (fun hc => ?_) (fun hc => ?_)
        · replace h := z_ff h hc
          clear hc
          refine lv_iconst (v := (0 : Int32)) hx hb dX11_watch_88 (by decide) ?_
          refine lv_iadd hx hb dX11_watch_89 ?_
          refine lv_topi (fun z9 e1 => ?_)
          replace h := z_ly h e1
          clear e1
          refine lv_istore (lv' := [(5, .int z9), (0, .ref (b + 0)), (1, .int x1), (2, .int x2), (3, .int x3), (4, .int x4), (6, .int x6)]) hx hb dX11_watch_90 hl (by decide) rfl (fun ls hl => ?_)
          refine lv_iinc (v := x6 + (1 : Int32)) (lv' := [(6, .int (x6 + (1 : Int32))), (5, .int z9), (0, .ref (b + 0)), (1, .int x1), (2, .int x2), (3, .int x3), (4, .int x4)]) hx hb dX11_watch_92 hl (k := 6) rfl rfl (by decide) rfl (fun ls hl => ?_)
          refine lv_goto (tgt := 55) hx hb dX11_watch_95 (by decide) ?_
          exact ih _ _ _ _ _ _ _ _ _ _ h hW hS (lv_sub hl [2, 3, 4, 5, 6, 1, 0] rfl)
        · replace h := z_t h hc
          clear hc
          refine lv_iconst (v := (1 : Int32)) hx hb dX11_watch_84 (by decide) ?_
          refine lv_goto (tgt := 89) hx hb dX11_watch_85 (by decide) ?_
          refine lv_iadd hx hb dX11_watch_89 ?_
          refine lv_topi (fun z10 e1 => ?_)
          replace h := z_ly h e1
          clear e1
          refine lv_istore (lv' := [(5, .int z10), (0, .ref (b + 0)), (1, .int x1), (2, .int x2), (3, .int x3), (4, .int x4), (6, .int x6)]) hx hb dX11_watch_90 hl (by decide) rfl (fun ls hl => ?_)
          refine lv_iinc (v := x6 + (1 : Int32)) (lv' := [(6, .int (x6 + (1 : Int32))), (5, .int z10), (0, .ref (b + 0)), (1, .int x1), (2, .int x2), (3, .int x3), (4, .int x4)]) hx hb dX11_watch_92 hl (k := 6) rfl rfl (by decide) rfl (fun ls hl => ?_)
          refine lv_goto (tgt := 55) hx hb dX11_watch_95 (by decide) ?_
          exact ih _ _ _ _ _ _ _ _ _ _ h hW hS (lv_sub hl [2, 3, 4, 5, 6, 1, 0] rfl)
set_option maxRecDepth 100000 in
set_option maxHeartbeats 4000000 in
theorem l_X11_watch_37 {l : Launch} {D : zD} {A : Nat → Prop} {b : Nat} {p : Program} {e : Env} {s : State} {m : MethodId} {args : Array Value} {below : List Frame} {meth : Method} {c : Code} {v : Int32} {u' : zU} (C0 : z_C p c cX11_watch s m args yX11_watch.cls D A) (hr : meth.sig.returnType = (some .int)) (hml : c.maxLocals = 7) (hlk : meth.locks = false) : ∀ (n : Nat) (x1 : Int32) (x2 : Int32) (x3 : Int32) (x4 : Int32) (u : zU) (H : Heap) (locs : List Loc) (ls : Array Slot), f_X11_watch_37 n x1 x2 x3 x4 u = some (v, u') → z_W D A b gM u H → va_S A s.heap H locs → lv_has ls 7 [(0, .ref (b + 0)), (1, .int x1), (2, .int x2), (3, .int x3), (4, .int x4)] → W p l e { frames := 3, cells := 0, slots := 0, locals := 69 } s m args below meth c H locs 0 0 (z_End D A b gM below args s (some (.int v)) u') (F0 m 37 ls []) := by
  have hx := C0.1
  have hb := C0.2.1
  intro n
  induction n with
  | zero => intro x1 x2 x3 x4 u H locs ls h hW hS hl; cases h
  | succ n ih =>
    intro x1 x2 x3 x4 u H locs ls h hW hS hl
    rw [f_X11_watch_37_s] at h
    refine lv_iload hx hb dX11_watch_37 (lv_at hl 4 rfl) ?_
    refine lv_bipush (v := (17 : Int32)) hx hb dX11_watch_39 (by decide) ?_
    refine lv_icmp_gt (tgt := 133) hx hb dX11_watch_41 (by decide) (fun hc => ?_) (fun hc => ?_)
    · replace h := z_t h hc
      clear hc
      refine lv_iload_n hx hb dX11_watch_133 rfl (lv_at hl 2 rfl) ?_
      cases h
      exact z_iret C0 hr hlk hW hS dX11_watch_134
    · replace h := z_f h hc
      clear hc
      refine lv_iload_n hx hb dX11_watch_44 rfl (lv_at hl 1 rfl) ?_
      refine lv_iconst (v := (1 : Int32)) hx hb dX11_watch_45 (by decide) ?_
      refine lv_icmp_le (tgt := 133) hx hb dX11_watch_46 (by decide) (fun hc => ?_) (fun hc => ?_)
      · replace h := z_t h hc
        clear hc
        refine lv_iload_n hx hb dX11_watch_133 rfl (lv_at hl 2 rfl) ?_
        cases h
        exact z_iret C0 hr hlk hW hS dX11_watch_134
      · replace h := z_f h hc
        clear hc
        refine lv_iconst (v := (0 : Int32)) hx hb dX11_watch_49 (by decide) ?_
        refine lv_istore (lv' := [(5, .int (0 : Int32)), (0, .ref (b + 0)), (1, .int x1), (2, .int x2), (3, .int x3), (4, .int x4)]) hx hb dX11_watch_50 hl (by decide) rfl (fun ls hl => ?_)
        refine lv_iconst (v := (0 : Int32)) hx hb dX11_watch_52 (by decide) ?_
        refine lv_istore (lv' := [(6, .int (0 : Int32)), (5, .int (0 : Int32)), (0, .ref (b + 0)), (1, .int x1), (2, .int x2), (3, .int x3), (4, .int x4)]) hx hb dX11_watch_53 hl (by decide) rfl (fun ls hl => ?_)
        exact l_X11_watch_55 C0 hr hml hlk (fun q0 q1 q2 q3 q4 q5 q6 q7 h hW hS hl => ih q0 q1 q2 q3 q4 q5 q6 q7 h hW hS hl) 5000 _ _ _ _ _ _ _ _ _ _ h hW hS (lv_sub hl [2, 3, 4, 5, 6, 1, 0] rfl)
theorem f_X11_watch_e  (u : zU) : f_X11_watch u = z_b2 (f_X11_heard u) (fun r1 u2 => if r1 = (-1 : Int32) then (z_let (z_up u2 0 0 (1 : Int32)) (fun u11 => if (u11 0 0) ≤ 0 then (f_X11_watch_37 5000 r1 (-1 : Int32) (2000000000 : Int32) (1 : Int32) u11) else (some ((0 : Int32), u11)))) else (z_let (z_up u2 0 0 (0 : Int32)) (fun u3 => if (u3 0 0) ≤ 0 then (f_X11_watch_37 5000 r1 (-1 : Int32) (2000000000 : Int32) (1 : Int32) u3) else (some ((0 : Int32), u3))))) := rfl
set_option maxRecDepth 100000 in
set_option maxHeartbeats 4000000 in
theorem c_X11_watch (l : Launch) (D : zD) (A : Nat → Prop) (b : Nat)  (u : zU) {v : Int32} {u' : zU} (h : f_X11_watch u = some (v, u')) : z_M l D A b gM yX11_watch cX11_watch 7 (some .int) 3 69 [.ref (b + 0)] u (some (.int v)) u' := by
  refine z_enter (by decide) (Nat.le_of_ble_eq_true rfl) ?_
  intro p e s m below meth c ls C0 hr hml hlk hW hS hl
  have hl : lv_has ls 7 [(0, .ref (b + 0))] := hl
  have hx := C0.1
  have hb := C0.2.1
  rw [f_X11_watch_e] at h
  refine lv_aload_n hx hb dX11_watch_0 rfl (lv_at hl 0 rfl) ?_
  replace h := z_bd2 h
  obtain ⟨r1, u2, hq, h⟩ := h
  refine z_cvi (As := []) C0 hml hl.1 hW hS (c_X11_heard l D A b u hq) mv_X11_341 rfl ⟨Nat.le_of_ble_eq_true rfl, Nat.le_of_ble_eq_true rfl⟩ rfl rfl (Nat.le_of_ble_eq_true rfl) dX11_watch_1 (fun H locs hW hS => ?_)
  clear hq
  refine lv_istore_n (lv' := [(1, .int r1), (0, .ref (b + 0))]) hx hb dX11_watch_4 rfl hl (by decide) rfl (fun ls hl => ?_)
  refine lv_aload_n hx hb dX11_watch_5 rfl (lv_at hl 1 rfl) ?_
  refine lv_iload_n hx hb dX11_watch_6 rfl (lv_at hl 0 rfl) ?_
  refine lv_iconst (v := (-1 : Int32)) hx hb dX11_watch_7 (by decide) ?_
  refine lv_icmp_ne (tgt := 15) hx hb dX11_watch_8 (by decide) (fun hc => ?_) (fun hc => ?_)
  · replace h := z_f h hc
    clear hc
    refine lv_iconst (v := (0 : Int32)) hx hb dX11_watch_15 (by decide) ?_
    refine z_puti C0 hW hS fl_X11_42 rfl rfl rfl rfl dX11_watch_16 (fun H locs u3 e1 hW hS => ?_)
    replace h := z_ly h e1
    clear e1
    refine lv_aload_n hx hb dX11_watch_19 rfl (lv_at hl 1 rfl) ?_
    refine z_geti C0 hW fl_X11_42 rfl rfl dX11_watch_20 ?_
    refine lv_if_le (tgt := 28) hx hb dX11_watch_23 (by decide) (fun hc => ?_) (fun hc => ?_)
    · replace h := z_t h hc
      clear hc
      refine lv_iconst (v := (-1 : Int32)) hx hb dX11_watch_28 (by decide) ?_
      refine lv_istore_n (lv' := [(2, .int (-1 : Int32)), (1, .int r1), (0, .ref (b + 0))]) hx hb dX11_watch_29 rfl hl (by decide) rfl (fun ls hl => ?_)
      refine lv_ldcw (own := yX11_watch.cls) (v := (2000000000 : Int32)) hx hb C0.2.2.2.1 (C0.2.2.1 _ k_X11_330) dX11_watch_30 ?_
      refine lv_istore_n (lv' := [(3, .int (2000000000 : Int32)), (2, .int (-1 : Int32)), (1, .int r1), (0, .ref (b + 0))]) hx hb dX11_watch_33 rfl hl (by decide) rfl (fun ls hl => ?_)
      refine lv_iconst (v := (1 : Int32)) hx hb dX11_watch_34 (by decide) ?_
      refine lv_istore (lv' := [(4, .int (1 : Int32)), (3, .int (2000000000 : Int32)), (2, .int (-1 : Int32)), (1, .int r1), (0, .ref (b + 0))]) hx hb dX11_watch_35 hl (by decide) rfl (fun ls hl => ?_)
      exact l_X11_watch_37 C0 hr hml hlk 5000 _ _ _ _ _ _ _ _ h hW hS (lv_sub hl [4, 3, 2, 1, 0] rfl)
    · replace h := z_f h hc
      clear hc
      refine lv_iconst (v := (0 : Int32)) hx hb dX11_watch_26 (by decide) ?_
      cases h
      exact z_iret C0 hr hlk hW hS dX11_watch_27
  · replace h := z_t h hc
    clear hc
    refine lv_iconst (v := (1 : Int32)) hx hb dX11_watch_11 (by decide) ?_
    refine lv_goto (tgt := 16) hx hb dX11_watch_12 (by decide) ?_
    refine z_puti C0 hW hS fl_X11_42 rfl rfl rfl rfl dX11_watch_16 (fun H locs u11 e1 hW hS => ?_)
    replace h := z_ly h e1
    clear e1
    refine lv_aload_n hx hb dX11_watch_19 rfl (lv_at hl 1 rfl) ?_
    refine z_geti C0 hW fl_X11_42 rfl rfl dX11_watch_20 ?_
    refine lv_if_le (tgt := 28) hx hb dX11_watch_23 (by decide) (fun hc => ?_) (fun hc => ?_)
    · replace h := z_t h hc
      clear hc
      refine lv_iconst (v := (-1 : Int32)) hx hb dX11_watch_28 (by decide) ?_
      refine lv_istore_n (lv' := [(2, .int (-1 : Int32)), (1, .int r1), (0, .ref (b + 0))]) hx hb dX11_watch_29 rfl hl (by decide) rfl (fun ls hl => ?_)
      refine lv_ldcw (own := yX11_watch.cls) (v := (2000000000 : Int32)) hx hb C0.2.2.2.1 (C0.2.2.1 _ k_X11_330) dX11_watch_30 ?_
      refine lv_istore_n (lv' := [(3, .int (2000000000 : Int32)), (2, .int (-1 : Int32)), (1, .int r1), (0, .ref (b + 0))]) hx hb dX11_watch_33 rfl hl (by decide) rfl (fun ls hl => ?_)
      refine lv_iconst (v := (1 : Int32)) hx hb dX11_watch_34 (by decide) ?_
      refine lv_istore (lv' := [(4, .int (1 : Int32)), (3, .int (2000000000 : Int32)), (2, .int (-1 : Int32)), (1, .int r1), (0, .ref (b + 0))]) hx hb dX11_watch_35 hl (by decide) rfl (fun ls hl => ?_)
      exact l_X11_watch_37 C0 hr hml hlk 5000 _ _ _ _ _ _ _ _ h hW hS (lv_sub hl [4, 3, 2, 1, 0] rfl)
    · replace h := z_f h hc
      clear hc
      refine lv_iconst (v := (0 : Int32)) hx hb dX11_watch_26 (by decide) ?_
      cases h
      exact z_iret C0 hr hlk hW hS dX11_watch_27
def f_X11_heights_94 (K : Int32 → Int32 → Int32 → zU → Option (Int32 × zU)) : Nat → Int32 → Int32 → Int32 → Int32 → Int32 → zU → Option (Int32 × zU)
  | 0, _, _, _, _, _, _ => none
  | n + 1, x1, x3, x4, x5, x6, u =>
    if x1 ≤ x6 then (if x5 = 0 then (z_let (x3 ||| (0 : Int32)) (fun z3 => K x1 z3 (x4 + (1 : Int32)) u)) else (z_let (x3 ||| ((1 : Int32) <<< (x4 &&& 31))) (fun z4 => K x1 z4 (x4 + (1 : Int32)) u))) else (if x5 = 0 then (if x5 = 0 then (z_let (x3 ||| (0 : Int32)) (fun z5 => K x1 z5 (x4 + (1 : Int32)) u)) else (z_let (x3 ||| ((1 : Int32) <<< (x4 &&& 31))) (fun z6 => K x1 z6 (x4 + (1 : Int32)) u))) else (if z_in x6 400 = true then (z_let (u 5 (x6).toNatClampNeg) (fun z7 => if z7 < x4 then (if z_in (x6 + (1 : Int32)) 400 = true then (z_let (u 5 (x6 + (1 : Int32)).toNatClampNeg) (fun z8 => if z8 = (1 : Int32) then (f_X11_heights_94 K n x1 x3 x4 (0 : Int32) (x6 + (2 : Int32)) u) else (f_X11_heights_94 K n x1 x3 x4 (1 : Int32) (x6 + (2 : Int32)) u))) else none) else (if z_in (x6 + (1 : Int32)) 400 = true then (z_let (u 5 (x6 + (1 : Int32)).toNatClampNeg) (fun z9 => if z9 = (1 : Int32) then (f_X11_heights_94 K n x1 x3 x4 (1 : Int32) (x6 + (2 : Int32)) u) else (f_X11_heights_94 K n x1 x3 x4 (0 : Int32) (x6 + (2 : Int32)) u))) else none))) else none))
theorem f_X11_heights_94_s (K : Int32 → Int32 → Int32 → zU → Option (Int32 × zU)) (n : Nat) (x1 : Int32) (x3 : Int32) (x4 : Int32) (x5 : Int32) (x6 : Int32) (u : zU) : f_X11_heights_94 K (n + 1) x1 x3 x4 x5 x6 u = if x1 ≤ x6 then (if x5 = 0 then (z_let (x3 ||| (0 : Int32)) (fun z3 => K x1 z3 (x4 + (1 : Int32)) u)) else (z_let (x3 ||| ((1 : Int32) <<< (x4 &&& 31))) (fun z4 => K x1 z4 (x4 + (1 : Int32)) u))) else (if x5 = 0 then (if x5 = 0 then (z_let (x3 ||| (0 : Int32)) (fun z5 => K x1 z5 (x4 + (1 : Int32)) u)) else (z_let (x3 ||| ((1 : Int32) <<< (x4 &&& 31))) (fun z6 => K x1 z6 (x4 + (1 : Int32)) u))) else (if z_in x6 400 = true then (z_let (u 5 (x6).toNatClampNeg) (fun z7 => if z7 < x4 then (if z_in (x6 + (1 : Int32)) 400 = true then (z_let (u 5 (x6 + (1 : Int32)).toNatClampNeg) (fun z8 => if z8 = (1 : Int32) then (f_X11_heights_94 K n x1 x3 x4 (0 : Int32) (x6 + (2 : Int32)) u) else (f_X11_heights_94 K n x1 x3 x4 (1 : Int32) (x6 + (2 : Int32)) u))) else none) else (if z_in (x6 + (1 : Int32)) 400 = true then (z_let (u 5 (x6 + (1 : Int32)).toNatClampNeg) (fun z9 => if z9 = (1 : Int32) then (f_X11_heights_94 K n x1 x3 x4 (1 : Int32) (x6 + (2 : Int32)) u) else (f_X11_heights_94 K n x1 x3 x4 (0 : Int32) (x6 + (2 : Int32)) u))) else none))) else none)) := rfl
def f_X11_heights_82 : Nat → Int32 → Int32 → Int32 → zU → Option (Int32 × zU)
  | 0, _, _, _, _ => none
  | n + 1, x1, x3, x4, u =>
    if (5 : Int32) < x4 then (some (x3, u)) else (f_X11_heights_94 (fun k1 k3 k4 u => f_X11_heights_82 n k1 k3 k4 u) 5000 x1 x3 x4 (1 : Int32) (0 : Int32) u)
theorem f_X11_heights_82_s (n : Nat) (x1 : Int32) (x3 : Int32) (x4 : Int32) (u : zU) : f_X11_heights_82 (n + 1) x1 x3 x4 u = if (5 : Int32) < x4 then (some (x3, u)) else (f_X11_heights_94 (fun k1 k3 k4 u => f_X11_heights_82 n k1 k3 k4 u) 5000 x1 x3 x4 (1 : Int32) (0 : Int32) u) := rfl
def f_X11_heights_30 : Nat → Int32 → Int32 → Int32 → zU → Option (Int32 × zU)
  | 0, _, _, _, _ => none
  | n + 1, x1, x2, x3, u =>
    if x1 ≤ x3 then (if x2 = 0 then (some ((-1 : Int32), u)) else (f_X11_heights_82 5000 x1 (0 : Int32) (0 : Int32) u)) else (if x2 = 0 then (if x2 = 0 then (some ((-1 : Int32), u)) else (f_X11_heights_82 5000 x1 (0 : Int32) (0 : Int32) u)) else (if z_in x3 400 = true then (z_let (u 5 (x3).toNatClampNeg) (fun z10 => if (z_rem x3 (2 : Int32)) = 0 then (if (5 : Int32) ≤ z10 then (f_X11_heights_30 n x1 (0 : Int32) (x3 + (1 : Int32)) u) else (f_X11_heights_30 n x1 (1 : Int32) (x3 + (1 : Int32)) u)) else (if (2 : Int32) ≤ z10 then (f_X11_heights_30 n x1 (0 : Int32) (x3 + (1 : Int32)) u) else (f_X11_heights_30 n x1 (1 : Int32) (x3 + (1 : Int32)) u)))) else none))
theorem f_X11_heights_30_s (n : Nat) (x1 : Int32) (x2 : Int32) (x3 : Int32) (u : zU) : f_X11_heights_30 (n + 1) x1 x2 x3 u = if x1 ≤ x3 then (if x2 = 0 then (some ((-1 : Int32), u)) else (f_X11_heights_82 5000 x1 (0 : Int32) (0 : Int32) u)) else (if x2 = 0 then (if x2 = 0 then (some ((-1 : Int32), u)) else (f_X11_heights_82 5000 x1 (0 : Int32) (0 : Int32) u)) else (if z_in x3 400 = true then (z_let (u 5 (x3).toNatClampNeg) (fun z10 => if (z_rem x3 (2 : Int32)) = 0 then (if (5 : Int32) ≤ z10 then (f_X11_heights_30 n x1 (0 : Int32) (x3 + (1 : Int32)) u) else (f_X11_heights_30 n x1 (1 : Int32) (x3 + (1 : Int32)) u)) else (if (2 : Int32) ≤ z10 then (f_X11_heights_30 n x1 (0 : Int32) (x3 + (1 : Int32)) u) else (f_X11_heights_30 n x1 (1 : Int32) (x3 + (1 : Int32)) u)))) else none)) := rfl
def f_X11_heights  (u : zU) : Option (Int32 × zU) :=
  z_let (u 0 8) (fun z1 => z_let (z_up u 0 8 (0 : Int32)) (fun u2 => if (z_rem z1 (2 : Int32)) = 0 then (if (40 : Int32) < z1 then (f_X11_heights_30 5000 z1 (0 : Int32) (0 : Int32) u2) else (f_X11_heights_30 5000 z1 (1 : Int32) (0 : Int32) u2)) else (f_X11_heights_30 5000 z1 (0 : Int32) (0 : Int32) u2)))
set_option maxRecDepth 100000 in
set_option maxHeartbeats 4000000 in
theorem l_X11_heights_94 {l : Launch} {D : zD} {A : Nat → Prop} {b : Nat} {p : Program} {e : Env} {s : State} {m : MethodId} {args : Array Value} {below : List Frame} {meth : Method} {c : Code} {v : Int32} {u' : zU} {K : Int32 → Int32 → Int32 → zU → Option (Int32 × zU)} (C0 : z_C p c cX11_heights s m args yX11_heights.cls D A) (hr : meth.sig.returnType = (some .int)) (hml : c.maxLocals = 7) (hlk : meth.locks = false) (hK : ∀ (x1 : Int32) (x3 : Int32) (x4 : Int32) (u : zU) (H : Heap) (locs : List Loc) (ls : Array Slot), K x1 x3 x4 u = some (v, u') → z_W D A b gM u H → va_S A s.heap H locs → lv_has ls 7 [(0, .ref (b + 0)), (1, .int x1), (3, .int x3), (4, .int x4)] → W p l e { frames := 0, cells := 0, slots := 0, locals := 0 } s m args below meth c H locs 0 0 (z_End D A b gM below args s (some (.int v)) u') (F0 m 82 ls [])) : ∀ (n : Nat) (x1 : Int32) (x3 : Int32) (x4 : Int32) (x5 : Int32) (x6 : Int32) (u : zU) (H : Heap) (locs : List Loc) (ls : Array Slot), f_X11_heights_94 K n x1 x3 x4 x5 x6 u = some (v, u') → z_W D A b gM u H → va_S A s.heap H locs → lv_has ls 7 [(0, .ref (b + 0)), (1, .int x1), (3, .int x3), (4, .int x4), (5, .int x5), (6, .int x6)] → W p l e { frames := 0, cells := 0, slots := 0, locals := 0 } s m args below meth c H locs 0 0 (z_End D A b gM below args s (some (.int v)) u') (F0 m 94 ls []) := by
  have hx := C0.1
  have hb := C0.2.1
  intro n
  induction n with
  | zero => intro x1 x3 x4 x5 x6 u H locs ls h hW hS hl; cases h
  | succ n ih =>
    intro x1 x3 x4 x5 x6 u H locs ls h hW hS hl
    rw [f_X11_heights_94_s] at h
    refine lv_iload hx hb dX11_heights_94 (lv_at hl 5 rfl) ?_
    refine lv_iload_n hx hb dX11_heights_96 rfl (lv_at hl 1 rfl) ?_
    refine lv_icmp_ge (tgt := 156) hx hb dX11_heights_97 (by decide) (fun hc => ?_) (fun hc => ?_)
    · replace h := z_t h hc
      clear hc
      refine lv_iload_n hx hb dX11_heights_156 rfl (lv_at hl 2 rfl) ?_
      refine lv_iload hx hb dX11_heights_157 (lv_at hl 4 rfl) ?_
      refine lv_if_eq (tgt := 169) hx hb dX11_heights_159 (by decide) (fun hc => ?_) (fun hc => ?_)
      · replace h := z_t h hc
        clear hc
        refine lv_iconst (v := (0 : Int32)) hx hb dX11_heights_169 (by decide) ?_
        refine lv_ior hx hb dX11_heights_170 ?_
        refine lv_topi (fun z3 e1 => ?_)
        replace h := z_ly h e1
        clear e1
        refine lv_istore_n (lv' := [(3, .int z3), (0, .ref (b + 0)), (1, .int x1), (4, .int x4), (5, .int x5), (6, .int x6)]) hx hb dX11_heights_171 rfl hl (by decide) rfl (fun ls hl => ?_)
        refine lv_iinc (v := x4 + (1 : Int32)) (lv' := [(4, .int (x4 + (1 : Int32))), (3, .int z3), (0, .ref (b + 0)), (1, .int x1), (5, .int x5), (6, .int x6)]) hx hb dX11_heights_172 hl (k := 3) rfl rfl (by decide) rfl (fun ls hl => ?_)
        refine lv_goto (tgt := 82) hx hb dX11_heights_175 (by decide) ?_
        exact hK _ _ _ _ _ _ _ h hW hS (lv_sub hl [2, 3, 1, 0] rfl)
      · replace h := z_f h hc
        clear hc
        refine lv_iconst (v := (1 : Int32)) hx hb dX11_heights_162 (by decide) ?_
        refine lv_iload hx hb dX11_heights_163 (lv_at hl 3 rfl) ?_
        refine lv_ishl hx hb dX11_heights_165 ?_
        refine lv_goto (tgt := 170) hx hb dX11_heights_166 (by decide) ?_
        refine lv_ior hx hb dX11_heights_170 ?_
        refine lv_topi (fun z4 e1 => ?_)
        replace h := z_ly h e1
        clear e1
        refine lv_istore_n (lv' := [(3, .int z4), (0, .ref (b + 0)), (1, .int x1), (4, .int x4), (5, .int x5), (6, .int x6)]) hx hb dX11_heights_171 rfl hl (by decide) rfl (fun ls hl => ?_)
        refine lv_iinc (v := x4 + (1 : Int32)) (lv' := [(4, .int (x4 + (1 : Int32))), (3, .int z4), (0, .ref (b + 0)), (1, .int x1), (5, .int x5), (6, .int x6)]) hx hb dX11_heights_172 hl (k := 3) rfl rfl (by decide) rfl (fun ls hl => ?_)
        refine lv_goto (tgt := 82) hx hb dX11_heights_175 (by decide) ?_
        exact hK _ _ _ _ _ _ _ h hW hS (lv_sub hl [2, 3, 1, 0] rfl)
    · replace h := z_f h hc
      clear hc
      refine lv_iload hx hb dX11_heights_100 (lv_at hl 4 rfl) ?_
      refine lv_if_eq (tgt := 156) hx hb dX11_heights_102 (by decide) (fun hc => ?_) (fun hc => ?_)
      · replace h := z_t h hc
        clear hc
        refine lv_iload_n hx hb dX11_heights_156 rfl (lv_at hl 2 rfl) ?_
        refine lv_iload hx hb dX11_heights_157 (lv_at hl 4 rfl) ?_
        refine lv_if_eq (tgt := 169) hx hb dX11_heights_159 (by decide) (fun hc => ?_) (fun hc => ?_)
        · replace h := z_t h hc
          clear hc
          refine lv_iconst (v := (0 : Int32)) hx hb dX11_heights_169 (by decide) ?_
          refine lv_ior hx hb dX11_heights_170 ?_
          refine lv_topi (fun z5 e1 => ?_)
          replace h := z_ly h e1
          clear e1
          refine lv_istore_n (lv' := [(3, .int z5), (0, .ref (b + 0)), (1, .int x1), (4, .int x4), (5, .int x5), (6, .int x6)]) hx hb dX11_heights_171 rfl hl (by decide) rfl (fun ls hl => ?_)
          refine lv_iinc (v := x4 + (1 : Int32)) (lv' := [(4, .int (x4 + (1 : Int32))), (3, .int z5), (0, .ref (b + 0)), (1, .int x1), (5, .int x5), (6, .int x6)]) hx hb dX11_heights_172 hl (k := 3) rfl rfl (by decide) rfl (fun ls hl => ?_)
          refine lv_goto (tgt := 82) hx hb dX11_heights_175 (by decide) ?_
          exact hK _ _ _ _ _ _ _ h hW hS (lv_sub hl [2, 3, 1, 0] rfl)
        · replace h := z_f h hc
          clear hc
          refine lv_iconst (v := (1 : Int32)) hx hb dX11_heights_162 (by decide) ?_
          refine lv_iload hx hb dX11_heights_163 (lv_at hl 3 rfl) ?_
          refine lv_ishl hx hb dX11_heights_165 ?_
          refine lv_goto (tgt := 170) hx hb dX11_heights_166 (by decide) ?_
          refine lv_ior hx hb dX11_heights_170 ?_
          refine lv_topi (fun z6 e1 => ?_)
          replace h := z_ly h e1
          clear e1
          refine lv_istore_n (lv' := [(3, .int z6), (0, .ref (b + 0)), (1, .int x1), (4, .int x4), (5, .int x5), (6, .int x6)]) hx hb dX11_heights_171 rfl hl (by decide) rfl (fun ls hl => ?_)
          refine lv_iinc (v := x4 + (1 : Int32)) (lv' := [(4, .int (x4 + (1 : Int32))), (3, .int z6), (0, .ref (b + 0)), (1, .int x1), (5, .int x5), (6, .int x6)]) hx hb dX11_heights_172 hl (k := 3) rfl rfl (by decide) rfl (fun ls hl => ?_)
          refine lv_goto (tgt := 82) hx hb dX11_heights_175 (by decide) ?_
          exact hK _ _ _ _ _ _ _ h hW hS (lv_sub hl [2, 3, 1, 0] rfl)
      · replace h := z_f h hc
        clear hc
        refine lv_aload_n hx hb dX11_heights_105 rfl (lv_at hl 0 rfl) ?_
        refine z_getr (o := 5) C0 hW fl_X11_22 rfl rfl rfl dX11_heights_106 ?_
        refine lv_iload hx hb dX11_heights_109 (lv_at hl 5 rfl) ?_
        replace h := z_if h
        obtain ⟨hin, h⟩ := h
        refine z_iald (n := 400) C0 hW rfl rfl hin rfl dX11_heights_111 ?_
        clear hin
        refine lv_topi (fun z7 e1 => ?_)
        replace h := z_ly h e1
        clear e1
        refine lv_iload hx hb dX11_heights_112 (lv_at hl 3 rfl) ?_
        refine lv_icmp_lt (tgt := 121) hx hb dX11_heights_114 (by decide) (fun hc => ?_) (fun hc => ?_)
        · replace h := z_t h hc
          clear hc
          refine lv_iconst (v := (0 : Int32)) hx hb dX11_heights_121 (by decide) ?_
          refine lv_aload_n hx hb dX11_heights_122 rfl (lv_at hl 0 rfl) ?_
          refine z_getr (o := 5) C0 hW fl_X11_22 rfl rfl rfl dX11_heights_123 ?_
          refine lv_iload hx hb dX11_heights_126 (lv_at hl 5 rfl) ?_
          refine lv_iconst (v := (1 : Int32)) hx hb dX11_heights_128 (by decide) ?_
          refine lv_iadd hx hb dX11_heights_129 ?_
          replace h := z_if h
          obtain ⟨hin, h⟩ := h
          refine z_iald (n := 400) C0 hW rfl rfl hin rfl dX11_heights_130 ?_
          clear hin
          refine lv_topi (fun z8 e1 => ?_)
          replace h := z_ly h e1
          clear e1
          refine lv_iconst (v := (1 : Int32)) hx hb dX11_heights_131 (by decide) ?_
          refine lv_icmp_ne (tgt := 139) hx hb dX11_heights_132 (by decide) (fun hc => ?_) (fun hc => ?_)
          · replace h := z_f h hc
            clear hc
            refine lv_iconst (v := (0 : Int32)) hx hb dX11_heights_139 (by decide) ?_
            refine lv_icmp_ne (tgt := 147) hx hb dX11_heights_140 (by decide) (fun hc => ?_) (fun hc => ?_)
            · exact absurd hc (by decide)
            · clear hc
              refine lv_iconst (v := (1 : Int32)) hx hb dX11_heights_143 (by decide) ?_
              refine lv_goto (tgt := 148) hx hb dX11_heights_144 (by decide) ?_
              refine lv_istore (lv' := [(5, .int (1 : Int32)), (0, .ref (b + 0)), (1, .int x1), (3, .int x3), (4, .int x4), (6, .int x6)]) hx hb dX11_heights_148 hl (by decide) rfl (fun ls hl => ?_)
              refine lv_iinc (v := x6 + (2 : Int32)) (lv' := [(6, .int (x6 + (2 : Int32))), (5, .int (1 : Int32)), (0, .ref (b + 0)), (1, .int x1), (3, .int x3), (4, .int x4)]) hx hb dX11_heights_150 hl (k := 5) rfl rfl (by decide) rfl (fun ls hl => ?_)
              refine lv_goto (tgt := 94) hx hb dX11_heights_153 (by decide) ?_
              exact ih _ _ _ _ _ _ _ _ _ h hW hS (lv_sub hl [2, 3, 4, 5, 1, 0] rfl)
          · replace h := z_t h hc
            clear hc
            refine lv_iconst (v := (1 : Int32)) hx hb dX11_heights_135 (by decide) ?_
            refine lv_goto (tgt := 140) hx hb dX11_heights_136 (by decide) ?_
            refine lv_icmp_ne (tgt := 147) hx hb dX11_heights_140 (by decide) (fun hc => ?_) (fun hc => ?_)
            · clear hc
              refine lv_iconst (v := (0 : Int32)) hx hb dX11_heights_147 (by decide) ?_
              refine lv_istore (lv' := [(5, .int (0 : Int32)), (0, .ref (b + 0)), (1, .int x1), (3, .int x3), (4, .int x4), (6, .int x6)]) hx hb dX11_heights_148 hl (by decide) rfl (fun ls hl => ?_)
              refine lv_iinc (v := x6 + (2 : Int32)) (lv' := [(6, .int (x6 + (2 : Int32))), (5, .int (0 : Int32)), (0, .ref (b + 0)), (1, .int x1), (3, .int x3), (4, .int x4)]) hx hb dX11_heights_150 hl (k := 5) rfl rfl (by decide) rfl (fun ls hl => ?_)
              refine lv_goto (tgt := 94) hx hb dX11_heights_153 (by decide) ?_
              exact ih _ _ _ _ _ _ _ _ _ h hW hS (lv_sub hl [2, 3, 4, 5, 1, 0] rfl)
            · exact absurd hc (by decide)
        · replace h := z_f h hc
          clear hc
          refine lv_iconst (v := (1 : Int32)) hx hb dX11_heights_117 (by decide) ?_
          refine lv_goto (tgt := 122) hx hb dX11_heights_118 (by decide) ?_
          refine lv_aload_n hx hb dX11_heights_122 rfl (lv_at hl 0 rfl) ?_
          refine z_getr (o := 5) C0 hW fl_X11_22 rfl rfl rfl dX11_heights_123 ?_
          refine lv_iload hx hb dX11_heights_126 (lv_at hl 5 rfl) ?_
          refine lv_iconst (v := (1 : Int32)) hx hb dX11_heights_128 (by decide) ?_
          refine lv_iadd hx hb dX11_heights_129 ?_
          replace h := z_if h
          obtain ⟨hin, h⟩ := h
          refine z_iald (n := 400) C0 hW rfl rfl hin rfl dX11_heights_130 ?_
          clear hin
          refine lv_topi (fun z9 e1 => ?_)
          replace h := z_ly h e1
          clear e1
          refine lv_iconst (v := (1 : Int32)) hx hb dX11_heights_131 (by decide) ?_
          refine lv_icmp_ne (tgt := 139) hx hb dX11_heights_132 (by decide) (fun hc => ?_) (fun hc => ?_)
          · replace h := z_f h hc
            clear hc
            refine lv_iconst (v := (0 : Int32)) hx hb dX11_heights_139 (by decide) ?_
            refine lv_icmp_ne (tgt := 147) hx hb dX11_heights_140 (by decide) (fun hc => ?_) (fun hc => ?_)
            · clear hc
              refine lv_iconst (v := (0 : Int32)) hx hb dX11_heights_147 (by decide) ?_
              refine lv_istore (lv' := [(5, .int (0 : Int32)), (0, .ref (b + 0)), (1, .int x1), (3, .int x3), (4, .int x4), (6, .int x6)]) hx hb dX11_heights_148 hl (by decide) rfl (fun ls hl => ?_)
              refine lv_iinc (v := x6 + (2 : Int32)) (lv' := [(6, .int (x6 + (2 : Int32))), (5, .int (0 : Int32)), (0, .ref (b + 0)), (1, .int x1), (3, .int x3), (4, .int x4)]) hx hb dX11_heights_150 hl (k := 5) rfl rfl (by decide) rfl (fun ls hl => ?_)
              refine lv_goto (tgt := 94) hx hb dX11_heights_153 (by decide) ?_
              exact ih _ _ _ _ _ _ _ _ _ h hW hS (lv_sub hl [2, 3, 4, 5, 1, 0] rfl)
            · exact absurd hc (by decide)
          · replace h := z_t h hc
            clear hc
            refine lv_iconst (v := (1 : Int32)) hx hb dX11_heights_135 (by decide) ?_
            refine lv_goto (tgt := 140) hx hb dX11_heights_136 (by decide) ?_
            refine lv_icmp_ne (tgt := 147) hx hb dX11_heights_140 (by decide) (fun hc => ?_) (fun hc => ?_)
            · exact absurd hc (by decide)
            · clear hc
              refine lv_iconst (v := (1 : Int32)) hx hb dX11_heights_143 (by decide) ?_
              refine lv_goto (tgt := 148) hx hb dX11_heights_144 (by decide) ?_
              refine lv_istore (lv' := [(5, .int (1 : Int32)), (0, .ref (b + 0)), (1, .int x1), (3, .int x3), (4, .int x4), (6, .int x6)]) hx hb dX11_heights_148 hl (by decide) rfl (fun ls hl => ?_)
              refine lv_iinc (v := x6 + (2 : Int32)) (lv' := [(6, .int (x6 + (2 : Int32))), (5, .int (1 : Int32)), (0, .ref (b + 0)), (1, .int x1), (3, .int x3), (4, .int x4)]) hx hb dX11_heights_150 hl (k := 5) rfl rfl (by decide) rfl (fun ls hl => ?_)
              refine lv_goto (tgt := 94) hx hb dX11_heights_153 (by decide) ?_
              exact ih _ _ _ _ _ _ _ _ _ h hW hS (lv_sub hl [2, 3, 4, 5, 1, 0] rfl)
set_option maxRecDepth 100000 in
set_option maxHeartbeats 4000000 in
theorem l_X11_heights_82 {l : Launch} {D : zD} {A : Nat → Prop} {b : Nat} {p : Program} {e : Env} {s : State} {m : MethodId} {args : Array Value} {below : List Frame} {meth : Method} {c : Code} {v : Int32} {u' : zU} (C0 : z_C p c cX11_heights s m args yX11_heights.cls D A) (hr : meth.sig.returnType = (some .int)) (hml : c.maxLocals = 7) (hlk : meth.locks = false) : ∀ (n : Nat) (x1 : Int32) (x3 : Int32) (x4 : Int32) (u : zU) (H : Heap) (locs : List Loc) (ls : Array Slot), f_X11_heights_82 n x1 x3 x4 u = some (v, u') → z_W D A b gM u H → va_S A s.heap H locs → lv_has ls 7 [(0, .ref (b + 0)), (1, .int x1), (3, .int x3), (4, .int x4)] → W p l e { frames := 0, cells := 0, slots := 0, locals := 0 } s m args below meth c H locs 0 0 (z_End D A b gM below args s (some (.int v)) u') (F0 m 82 ls []) := by
  have hx := C0.1
  have hb := C0.2.1
  intro n
  induction n with
  | zero => intro x1 x3 x4 u H locs ls h hW hS hl; cases h
  | succ n ih =>
    intro x1 x3 x4 u H locs ls h hW hS hl
    rw [f_X11_heights_82_s] at h
    refine lv_iload hx hb dX11_heights_82 (lv_at hl 3 rfl) ?_
    refine lv_iconst (v := (5 : Int32)) hx hb dX11_heights_84 (by decide) ?_
    refine lv_icmp_gt (tgt := 178) hx hb dX11_heights_85 (by decide) (fun hc => ?_) (fun hc => ?_)
    · replace h := z_t h hc
      clear hc
      refine lv_iload_n hx hb dX11_heights_178 rfl (lv_at hl 2 rfl) ?_
      cases h
      exact z_iret C0 hr hlk hW hS dX11_heights_179
    · replace h := z_f h hc
      clear hc
      refine lv_iconst (v := (1 : Int32)) hx hb dX11_heights_88 (by decide) ?_
      refine lv_istore (lv' := [(5, .int (1 : Int32)), (0, .ref (b + 0)), (1, .int x1), (3, .int x3), (4, .int x4)]) hx hb dX11_heights_89 hl (by decide) rfl (fun ls hl => ?_)
      refine lv_iconst (v := (0 : Int32)) hx hb dX11_heights_91 (by decide) ?_
      refine lv_istore (lv' := [(6, .int (0 : Int32)), (5, .int (1 : Int32)), (0, .ref (b + 0)), (1, .int x1), (3, .int x3), (4, .int x4)]) hx hb dX11_heights_92 hl (by decide) rfl (fun ls hl => ?_)
      exact l_X11_heights_94 C0 hr hml hlk (fun q0 q1 q2 q3 q4 q5 q6 h hW hS hl => ih q0 q1 q2 q3 q4 q5 q6 h hW hS hl) 5000 _ _ _ _ _ _ _ _ _ h hW hS (lv_sub hl [2, 3, 4, 5, 1, 0] rfl)
set_option maxRecDepth 100000 in
set_option maxHeartbeats 4000000 in
theorem l_X11_heights_30 {l : Launch} {D : zD} {A : Nat → Prop} {b : Nat} {p : Program} {e : Env} {s : State} {m : MethodId} {args : Array Value} {below : List Frame} {meth : Method} {c : Code} {v : Int32} {u' : zU} (C0 : z_C p c cX11_heights s m args yX11_heights.cls D A) (hr : meth.sig.returnType = (some .int)) (hml : c.maxLocals = 7) (hlk : meth.locks = false) : ∀ (n : Nat) (x1 : Int32) (x2 : Int32) (x3 : Int32) (u : zU) (H : Heap) (locs : List Loc) (ls : Array Slot), f_X11_heights_30 n x1 x2 x3 u = some (v, u') → z_W D A b gM u H → va_S A s.heap H locs → lv_has ls 7 [(0, .ref (b + 0)), (1, .int x1), (2, .int x2), (3, .int x3)] → W p l e { frames := 0, cells := 0, slots := 0, locals := 0 } s m args below meth c H locs 0 0 (z_End D A b gM below args s (some (.int v)) u') (F0 m 30 ls []) := by
  have hx := C0.1
  have hb := C0.2.1
  intro n
  induction n with
  | zero => intro x1 x2 x3 u H locs ls h hW hS hl; cases h
  | succ n ih =>
    intro x1 x2 x3 u H locs ls h hW hS hl
    rw [f_X11_heights_30_s] at h
    refine lv_iload_n hx hb dX11_heights_30 rfl (lv_at hl 3 rfl) ?_
    refine lv_iload_n hx hb dX11_heights_31 rfl (lv_at hl 1 rfl) ?_
    refine lv_icmp_ge (tgt := 71) hx hb dX11_heights_32 (by decide) (fun hc => ?_) (fun hc => ?_)
    · replace h := z_t h hc
      clear hc
      refine lv_iload_n hx hb dX11_heights_71 rfl (lv_at hl 2 rfl) ?_
      refine lv_if_ne (tgt := 77) hx hb dX11_heights_72 (by decide) (fun hc => ?_) (fun hc => ?_)
      · replace h := z_f h hc
        clear hc
        refine lv_iconst (v := (0 : Int32)) hx hb dX11_heights_77 (by decide) ?_
        refine lv_istore_n (lv' := [(3, .int (0 : Int32)), (0, .ref (b + 0)), (1, .int x1), (2, .int x2)]) hx hb dX11_heights_78 rfl hl (by decide) rfl (fun ls hl => ?_)
        refine lv_iconst (v := (0 : Int32)) hx hb dX11_heights_79 (by decide) ?_
        refine lv_istore (lv' := [(4, .int (0 : Int32)), (3, .int (0 : Int32)), (0, .ref (b + 0)), (1, .int x1), (2, .int x2)]) hx hb dX11_heights_80 hl (by decide) rfl (fun ls hl => ?_)
        exact l_X11_heights_82 C0 hr hml hlk 5000 _ _ _ _ _ _ _ h hW hS (lv_sub hl [2, 3, 1, 0] rfl)
      · replace h := z_t h hc
        clear hc
        refine lv_iconst (v := (-1 : Int32)) hx hb dX11_heights_75 (by decide) ?_
        cases h
        exact z_iret C0 hr hlk hW hS dX11_heights_76
    · replace h := z_f h hc
      clear hc
      refine lv_iload_n hx hb dX11_heights_35 rfl (lv_at hl 2 rfl) ?_
      refine lv_if_eq (tgt := 71) hx hb dX11_heights_36 (by decide) (fun hc => ?_) (fun hc => ?_)
      · replace h := z_t h hc
        clear hc
        refine lv_iload_n hx hb dX11_heights_71 rfl (lv_at hl 2 rfl) ?_
        refine lv_if_ne (tgt := 77) hx hb dX11_heights_72 (by decide) (fun hc => ?_) (fun hc => ?_)
        · replace h := z_f h hc
          clear hc
          refine lv_iconst (v := (0 : Int32)) hx hb dX11_heights_77 (by decide) ?_
          refine lv_istore_n (lv' := [(3, .int (0 : Int32)), (0, .ref (b + 0)), (1, .int x1), (2, .int x2)]) hx hb dX11_heights_78 rfl hl (by decide) rfl (fun ls hl => ?_)
          refine lv_iconst (v := (0 : Int32)) hx hb dX11_heights_79 (by decide) ?_
          refine lv_istore (lv' := [(4, .int (0 : Int32)), (3, .int (0 : Int32)), (0, .ref (b + 0)), (1, .int x1), (2, .int x2)]) hx hb dX11_heights_80 hl (by decide) rfl (fun ls hl => ?_)
          exact l_X11_heights_82 C0 hr hml hlk 5000 _ _ _ _ _ _ _ h hW hS (lv_sub hl [2, 3, 1, 0] rfl)
        · replace h := z_t h hc
          clear hc
          refine lv_iconst (v := (-1 : Int32)) hx hb dX11_heights_75 (by decide) ?_
          cases h
          exact z_iret C0 hr hlk hW hS dX11_heights_76
      · replace h := z_f h hc
        clear hc
        refine lv_aload_n hx hb dX11_heights_39 rfl (lv_at hl 0 rfl) ?_
        refine z_getr (o := 5) C0 hW fl_X11_22 rfl rfl rfl dX11_heights_40 ?_
        refine lv_iload_n hx hb dX11_heights_43 rfl (lv_at hl 3 rfl) ?_
        replace h := z_if h
        obtain ⟨hin, h⟩ := h
        refine z_iald (n := 400) C0 hW rfl rfl hin rfl dX11_heights_44 ?_
        clear hin
        refine lv_topi (fun z10 e1 => ?_)
        replace h := z_ly h e1
        clear e1
        refine lv_iload_n hx hb dX11_heights_45 rfl (lv_at hl 3 rfl) ?_
        refine lv_iconst (v := (2 : Int32)) hx hb dX11_heights_46 (by decide) ?_
        refine lv_irem hx hb dX11_heights_47 (by decide) ?_
        refine lv_if_ne (tgt := 55) hx hb dX11_heights_48 (by decide) (fun hc => ?_) (fun hc => ?_)
        · replace h := z_f h hc
          clear hc
          refine lv_iconst (v := (2 : Int32)) hx hb dX11_heights_55 (by decide) ?_
          refine lv_icmp_ge (tgt := 63) hx hb dX11_heights_56 (by decide) (fun hc => ?_) (fun hc => ?_)
          · replace h := z_t h hc
            clear hc
            refine lv_iconst (v := (0 : Int32)) hx hb dX11_heights_63 (by decide) ?_
            refine lv_istore_n (lv' := [(2, .int (0 : Int32)), (0, .ref (b + 0)), (1, .int x1), (3, .int x3)]) hx hb dX11_heights_64 rfl hl (by decide) rfl (fun ls hl => ?_)
            refine lv_iinc (v := x3 + (1 : Int32)) (lv' := [(3, .int (x3 + (1 : Int32))), (2, .int (0 : Int32)), (0, .ref (b + 0)), (1, .int x1)]) hx hb dX11_heights_65 hl (k := 3) rfl rfl (by decide) rfl (fun ls hl => ?_)
            refine lv_goto (tgt := 30) hx hb dX11_heights_68 (by decide) ?_
            exact ih _ _ _ _ _ _ _ h hW hS (lv_sub hl [2, 3, 1, 0] rfl)
          · replace h := z_f h hc
            clear hc
            refine lv_iconst (v := (1 : Int32)) hx hb dX11_heights_59 (by decide) ?_
            refine lv_goto (tgt := 64) hx hb dX11_heights_60 (by decide) ?_
            refine lv_istore_n (lv' := [(2, .int (1 : Int32)), (0, .ref (b + 0)), (1, .int x1), (3, .int x3)]) hx hb dX11_heights_64 rfl hl (by decide) rfl (fun ls hl => ?_)
            refine lv_iinc (v := x3 + (1 : Int32)) (lv' := [(3, .int (x3 + (1 : Int32))), (2, .int (1 : Int32)), (0, .ref (b + 0)), (1, .int x1)]) hx hb dX11_heights_65 hl (k := 3) rfl rfl (by decide) rfl (fun ls hl => ?_)
            refine lv_goto (tgt := 30) hx hb dX11_heights_68 (by decide) ?_
            exact ih _ _ _ _ _ _ _ h hW hS (lv_sub hl [2, 3, 1, 0] rfl)
        · replace h := z_t h hc
          clear hc
          refine lv_iconst (v := (5 : Int32)) hx hb dX11_heights_51 (by decide) ?_
          refine lv_goto (tgt := 56) hx hb dX11_heights_52 (by decide) ?_
          refine lv_icmp_ge (tgt := 63) hx hb dX11_heights_56 (by decide) (fun hc => ?_) (fun hc => ?_)
          · replace h := z_t h hc
            clear hc
            refine lv_iconst (v := (0 : Int32)) hx hb dX11_heights_63 (by decide) ?_
            refine lv_istore_n (lv' := [(2, .int (0 : Int32)), (0, .ref (b + 0)), (1, .int x1), (3, .int x3)]) hx hb dX11_heights_64 rfl hl (by decide) rfl (fun ls hl => ?_)
            refine lv_iinc (v := x3 + (1 : Int32)) (lv' := [(3, .int (x3 + (1 : Int32))), (2, .int (0 : Int32)), (0, .ref (b + 0)), (1, .int x1)]) hx hb dX11_heights_65 hl (k := 3) rfl rfl (by decide) rfl (fun ls hl => ?_)
            refine lv_goto (tgt := 30) hx hb dX11_heights_68 (by decide) ?_
            exact ih _ _ _ _ _ _ _ h hW hS (lv_sub hl [2, 3, 1, 0] rfl)
          · replace h := z_f h hc
            clear hc
            refine lv_iconst (v := (1 : Int32)) hx hb dX11_heights_59 (by decide) ?_
            refine lv_goto (tgt := 64) hx hb dX11_heights_60 (by decide) ?_
            refine lv_istore_n (lv' := [(2, .int (1 : Int32)), (0, .ref (b + 0)), (1, .int x1), (3, .int x3)]) hx hb dX11_heights_64 rfl hl (by decide) rfl (fun ls hl => ?_)
            refine lv_iinc (v := x3 + (1 : Int32)) (lv' := [(3, .int (x3 + (1 : Int32))), (2, .int (1 : Int32)), (0, .ref (b + 0)), (1, .int x1)]) hx hb dX11_heights_65 hl (k := 3) rfl rfl (by decide) rfl (fun ls hl => ?_)
            refine lv_goto (tgt := 30) hx hb dX11_heights_68 (by decide) ?_
            exact ih _ _ _ _ _ _ _ h hW hS (lv_sub hl [2, 3, 1, 0] rfl)
theorem f_X11_heights_e  (u : zU) : f_X11_heights u = z_let (u 0 8) (fun z1 => z_let (z_up u 0 8 (0 : Int32)) (fun u2 => if (z_rem z1 (2 : Int32)) = 0 then (if (40 : Int32) < z1 then (f_X11_heights_30 5000 z1 (0 : Int32) (0 : Int32) u2) else (f_X11_heights_30 5000 z1 (1 : Int32) (0 : Int32) u2)) else (f_X11_heights_30 5000 z1 (0 : Int32) (0 : Int32) u2))) := rfl
set_option maxRecDepth 100000 in
set_option maxHeartbeats 4000000 in
theorem c_X11_heights (l : Launch) (D : zD) (A : Nat → Prop) (b : Nat)  (u : zU) {v : Int32} {u' : zU} (h : f_X11_heights u = some (v, u')) : z_M l D A b gM yX11_heights cX11_heights 7 (some .int) 0 0 [.ref (b + 0)] u (some (.int v)) u' := by
  refine z_enter (by decide) (Nat.le_of_ble_eq_true rfl) ?_
  intro p e s m below meth c ls C0 hr hml hlk hW hS hl
  have hl : lv_has ls 7 [(0, .ref (b + 0))] := hl
  have hx := C0.1
  have hb := C0.2.1
  rw [f_X11_heights_e] at h
  refine lv_aload_n hx hb dX11_heights_0 rfl (lv_at hl 0 rfl) ?_
  refine z_geti C0 hW fl_X11_73 rfl rfl dX11_heights_1 ?_
  refine lv_topi (fun z1 e1 => ?_)
  replace h := z_ly h e1
  clear e1
  refine lv_istore_n (lv' := [(1, .int z1), (0, .ref (b + 0))]) hx hb dX11_heights_4 rfl hl (by decide) rfl (fun ls hl => ?_)
  refine lv_aload_n hx hb dX11_heights_5 rfl (lv_at hl 1 rfl) ?_
  refine lv_iconst (v := (0 : Int32)) hx hb dX11_heights_6 (by decide) ?_
  refine z_puti C0 hW hS fl_X11_73 rfl rfl rfl rfl dX11_heights_7 (fun H locs u2 e1 hW hS => ?_)
  replace h := z_ly h e1
  clear e1
  refine lv_iload_n hx hb dX11_heights_10 rfl (lv_at hl 0 rfl) ?_
  refine lv_iconst (v := (2 : Int32)) hx hb dX11_heights_11 (by decide) ?_
  refine lv_irem hx hb dX11_heights_12 (by decide) ?_
  refine lv_if_ne (tgt := 26) hx hb dX11_heights_13 (by decide) (fun hc => ?_) (fun hc => ?_)
  · replace h := z_f h hc
    clear hc
    refine lv_iconst (v := (0 : Int32)) hx hb dX11_heights_26 (by decide) ?_
    refine lv_istore_n (lv' := [(2, .int (0 : Int32)), (1, .int z1), (0, .ref (b + 0))]) hx hb dX11_heights_27 rfl hl (by decide) rfl (fun ls hl => ?_)
    refine lv_iconst (v := (0 : Int32)) hx hb dX11_heights_28 (by decide) ?_
    refine lv_istore_n (lv' := [(3, .int (0 : Int32)), (2, .int (0 : Int32)), (1, .int z1), (0, .ref (b + 0))]) hx hb dX11_heights_29 rfl hl (by decide) rfl (fun ls hl => ?_)
    exact l_X11_heights_30 C0 hr hml hlk 5000 _ _ _ _ _ _ _ h hW hS (lv_sub hl [3, 2, 1, 0] rfl)
  · replace h := z_t h hc
    clear hc
    refine lv_iload_n hx hb dX11_heights_16 rfl (lv_at hl 0 rfl) ?_
    refine lv_bipush (v := (40 : Int32)) hx hb dX11_heights_17 (by decide) ?_
    refine lv_icmp_gt (tgt := 26) hx hb dX11_heights_19 (by decide) (fun hc => ?_) (fun hc => ?_)
    · replace h := z_t h hc
      clear hc
      refine lv_iconst (v := (0 : Int32)) hx hb dX11_heights_26 (by decide) ?_
      refine lv_istore_n (lv' := [(2, .int (0 : Int32)), (1, .int z1), (0, .ref (b + 0))]) hx hb dX11_heights_27 rfl hl (by decide) rfl (fun ls hl => ?_)
      refine lv_iconst (v := (0 : Int32)) hx hb dX11_heights_28 (by decide) ?_
      refine lv_istore_n (lv' := [(3, .int (0 : Int32)), (2, .int (0 : Int32)), (1, .int z1), (0, .ref (b + 0))]) hx hb dX11_heights_29 rfl hl (by decide) rfl (fun ls hl => ?_)
      exact l_X11_heights_30 C0 hr hml hlk 5000 _ _ _ _ _ _ _ h hW hS (lv_sub hl [3, 2, 1, 0] rfl)
    · replace h := z_f h hc
      clear hc
      refine lv_iconst (v := (1 : Int32)) hx hb dX11_heights_22 (by decide) ?_
      refine lv_goto (tgt := 27) hx hb dX11_heights_23 (by decide) ?_
      refine lv_istore_n (lv' := [(2, .int (1 : Int32)), (1, .int z1), (0, .ref (b + 0))]) hx hb dX11_heights_27 rfl hl (by decide) rfl (fun ls hl => ?_)
      refine lv_iconst (v := (0 : Int32)) hx hb dX11_heights_28 (by decide) ?_
      refine lv_istore_n (lv' := [(3, .int (0 : Int32)), (2, .int (1 : Int32)), (1, .int z1), (0, .ref (b + 0))]) hx hb dX11_heights_29 rfl hl (by decide) rfl (fun ls hl => ?_)
      exact l_X11_heights_30 C0 hr hml hlk 5000 _ _ _ _ _ _ _ h hW hS (lv_sub hl [3, 2, 1, 0] rfl)
def f_X11_fire  (u : zU) : Option (Int32 × zU) :=
  z_b2 (f_X11_heights u) (fun r1 u2 => if r1 = (-1 : Int32) then (z_let (z_up u2 0 0 (1 : Int32)) (fun u4 => if (u4 0 0) ≤ 0 then (some (r1, u4)) else (some ((0 : Int32), u4)))) else (z_let (z_up u2 0 0 (0 : Int32)) (fun u3 => if (u3 0 0) ≤ 0 then (some (r1, u3)) else (some ((0 : Int32), u3)))))
theorem f_X11_fire_e  (u : zU) : f_X11_fire u = z_b2 (f_X11_heights u) (fun r1 u2 => if r1 = (-1 : Int32) then (z_let (z_up u2 0 0 (1 : Int32)) (fun u4 => if (u4 0 0) ≤ 0 then (some (r1, u4)) else (some ((0 : Int32), u4)))) else (z_let (z_up u2 0 0 (0 : Int32)) (fun u3 => if (u3 0 0) ≤ 0 then (some (r1, u3)) else (some ((0 : Int32), u3))))) := rfl
set_option maxRecDepth 100000 in
set_option maxHeartbeats 4000000 in
theorem c_X11_fire (l : Launch) (D : zD) (A : Nat → Prop) (b : Nat)  (u : zU) {v : Int32} {u' : zU} (h : f_X11_fire u = some (v, u')) : z_M l D A b gM yX11_fire cX11_fire 2 (some .int) 1 26 [.ref (b + 0)] u (some (.int v)) u' := by
  refine z_enter (by decide) (Nat.le_of_ble_eq_true rfl) ?_
  intro p e s m below meth c ls C0 hr hml hlk hW hS hl
  have hl : lv_has ls 2 [(0, .ref (b + 0))] := hl
  have hx := C0.1
  have hb := C0.2.1
  rw [f_X11_fire_e] at h
  refine lv_aload_n hx hb dX11_fire_0 rfl (lv_at hl 0 rfl) ?_
  replace h := z_bd2 h
  obtain ⟨r1, u2, hq, h⟩ := h
  refine z_cvi (As := []) C0 hml hl.1 hW hS (c_X11_heights l D A b u hq) mv_X11_344 rfl ⟨Nat.le_of_ble_eq_true rfl, Nat.le_of_ble_eq_true rfl⟩ rfl rfl (Nat.le_of_ble_eq_true rfl) dX11_fire_1 (fun H locs hW hS => ?_)
  clear hq
  refine lv_istore_n (lv' := [(1, .int r1), (0, .ref (b + 0))]) hx hb dX11_fire_4 rfl hl (by decide) rfl (fun ls hl => ?_)
  refine lv_aload_n hx hb dX11_fire_5 rfl (lv_at hl 1 rfl) ?_
  refine lv_iload_n hx hb dX11_fire_6 rfl (lv_at hl 0 rfl) ?_
  refine lv_iconst (v := (-1 : Int32)) hx hb dX11_fire_7 (by decide) ?_
  refine lv_icmp_ne (tgt := 15) hx hb dX11_fire_8 (by decide) (fun hc => ?_) (fun hc => ?_)
  · replace h := z_f h hc
    clear hc
    refine lv_iconst (v := (0 : Int32)) hx hb dX11_fire_15 (by decide) ?_
    refine z_puti C0 hW hS fl_X11_42 rfl rfl rfl rfl dX11_fire_16 (fun H locs u3 e1 hW hS => ?_)
    replace h := z_ly h e1
    clear e1
    refine lv_aload_n hx hb dX11_fire_19 rfl (lv_at hl 1 rfl) ?_
    refine z_geti C0 hW fl_X11_42 rfl rfl dX11_fire_20 ?_
    refine lv_if_le (tgt := 30) hx hb dX11_fire_23 (by decide) (fun hc => ?_) (fun hc => ?_)
    · replace h := z_t h hc
      clear hc
      refine lv_iload_n hx hb dX11_fire_30 rfl (lv_at hl 0 rfl) ?_
      cases h
      exact z_iret C0 hr hlk hW hS dX11_fire_31
    · replace h := z_f h hc
      clear hc
      refine lv_iconst (v := (0 : Int32)) hx hb dX11_fire_26 (by decide) ?_
      refine lv_goto (tgt := 31) hx hb dX11_fire_27 (by decide) ?_
      cases h
      exact z_iret C0 hr hlk hW hS dX11_fire_31
  · replace h := z_t h hc
    clear hc
    refine lv_iconst (v := (1 : Int32)) hx hb dX11_fire_11 (by decide) ?_
    refine lv_goto (tgt := 16) hx hb dX11_fire_12 (by decide) ?_
    refine z_puti C0 hW hS fl_X11_42 rfl rfl rfl rfl dX11_fire_16 (fun H locs u4 e1 hW hS => ?_)
    replace h := z_ly h e1
    clear e1
    refine lv_aload_n hx hb dX11_fire_19 rfl (lv_at hl 1 rfl) ?_
    refine z_geti C0 hW fl_X11_42 rfl rfl dX11_fire_20 ?_
    refine lv_if_le (tgt := 30) hx hb dX11_fire_23 (by decide) (fun hc => ?_) (fun hc => ?_)
    · replace h := z_t h hc
      clear hc
      refine lv_iload_n hx hb dX11_fire_30 rfl (lv_at hl 0 rfl) ?_
      cases h
      exact z_iret C0 hr hlk hW hS dX11_fire_31
    · replace h := z_f h hc
      clear hc
      refine lv_iconst (v := (0 : Int32)) hx hb dX11_fire_26 (by decide) ?_
      refine lv_goto (tgt := 31) hx hb dX11_fire_27 (by decide) ?_
      cases h
      exact z_iret C0 hr hlk hW hS dX11_fire_31
def f_X11_ask_46 : Nat → Int32 → Int32 → Int32 → Int32 → Int32 → Int32 → zU → Option (Int32 × zU)
  | 0, _, _, _, _, _, _, _ => none
  | n + 1, x1, x2, x3, x4, x5, x6, u =>
    if (5 : Int32) ≤ x6 then (some (x3, u)) else (if x2 ≤ (1 : Int32) then (some (x3, u)) else (z_let (x5 + ((x1 >>> (x6 &&& 31)) &&& (1 : Int32))) (fun z5 => z_let (f_X11_greater z5 (x2 - z5) u) (fun r6 => if r6 < x4 then (z_let (f_X11_greater z5 (x2 - z5) u) (fun r7 => f_X11_ask_46 n x1 x2 x6 r7 z5 (x6 + (1 : Int32)) u)) else (f_X11_ask_46 n x1 x2 x3 x4 z5 (x6 + (1 : Int32)) u)))))
theorem f_X11_ask_46_s (n : Nat) (x1 : Int32) (x2 : Int32) (x3 : Int32) (x4 : Int32) (x5 : Int32) (x6 : Int32) (u : zU) : f_X11_ask_46 (n + 1) x1 x2 x3 x4 x5 x6 u = if (5 : Int32) ≤ x6 then (some (x3, u)) else (if x2 ≤ (1 : Int32) then (some (x3, u)) else (z_let (x5 + ((x1 >>> (x6 &&& 31)) &&& (1 : Int32))) (fun z5 => z_let (f_X11_greater z5 (x2 - z5) u) (fun r6 => if r6 < x4 then (z_let (f_X11_greater z5 (x2 - z5) u) (fun r7 => f_X11_ask_46 n x1 x2 x6 r7 z5 (x6 + (1 : Int32)) u)) else (f_X11_ask_46 n x1 x2 x3 x4 z5 (x6 + (1 : Int32)) u))))) := rfl
def f_X11_ask  (u : zU) : Option (Int32 × zU) :=
  z_b2 (f_X11_heights u) (fun r1 u2 => if r1 = (-1 : Int32) then (z_let (z_up u2 0 0 (1 : Int32)) (fun u8 => if (u8 0 0) ≤ 0 then ((f_X11_bits r1 u8).bind (fun r9 => f_X11_ask_46 5000 r1 r9 (-1 : Int32) (2000000000 : Int32) (0 : Int32) (0 : Int32) u8)) else (some ((0 : Int32), u8)))) else (z_let (z_up u2 0 0 (0 : Int32)) (fun u3 => if (u3 0 0) ≤ 0 then ((f_X11_bits r1 u3).bind (fun r4 => f_X11_ask_46 5000 r1 r4 (-1 : Int32) (2000000000 : Int32) (0 : Int32) (0 : Int32) u3)) else (some ((0 : Int32), u3)))))
set_option maxRecDepth 100000 in
set_option maxHeartbeats 4000000 in
theorem l_X11_ask_46 {l : Launch} {D : zD} {A : Nat → Prop} {b : Nat} {p : Program} {e : Env} {s : State} {m : MethodId} {args : Array Value} {below : List Frame} {meth : Method} {c : Code} {v : Int32} {u' : zU} (C0 : z_C p c cX11_ask s m args yX11_ask.cls D A) (hr : meth.sig.returnType = (some .int)) (hml : c.maxLocals = 7) (hlk : meth.locks = false) : ∀ (n : Nat) (x1 : Int32) (x2 : Int32) (x3 : Int32) (x4 : Int32) (x5 : Int32) (x6 : Int32) (u : zU) (H : Heap) (locs : List Loc) (ls : Array Slot), f_X11_ask_46 n x1 x2 x3 x4 x5 x6 u = some (v, u') → z_W D A b gM u H → va_S A s.heap H locs → lv_has ls 7 [(1, .int x1), (2, .int x2), (3, .int x3), (4, .int x4), (5, .int x5), (6, .int x6)] → W p l e { frames := 1, cells := 0, slots := 0, locals := 26 } s m args below meth c H locs 0 0 (z_End D A b gM below args s (some (.int v)) u') (F0 m 46 ls []) := by
  have hx := C0.1
  have hb := C0.2.1
  intro n
  induction n with
  | zero => intro x1 x2 x3 x4 x5 x6 u H locs ls h hW hS hl; cases h
  | succ n ih =>
    intro x1 x2 x3 x4 x5 x6 u H locs ls h hW hS hl
    rw [f_X11_ask_46_s] at h
    refine lv_iload hx hb dX11_ask_46 (lv_at hl 5 rfl) ?_
    refine lv_iconst (v := (5 : Int32)) hx hb dX11_ask_48 (by decide) ?_
    refine lv_icmp_ge (tgt := 105) hx hb dX11_ask_49 (by decide) (fun hc => ?_) (fun hc => ?_)
    · replace h := z_t h hc
      clear hc
      refine lv_iload_n hx hb dX11_ask_105 rfl (lv_at hl 2 rfl) ?_
      cases h
      exact z_iret C0 hr hlk hW hS dX11_ask_106
    · replace h := z_f h hc
      clear hc
      refine lv_iload_n hx hb dX11_ask_52 rfl (lv_at hl 1 rfl) ?_
      refine lv_iconst (v := (1 : Int32)) hx hb dX11_ask_53 (by decide) ?_
      refine lv_icmp_le (tgt := 105) hx hb dX11_ask_54 (by decide) (fun hc => ?_) (fun hc => ?_)
      · replace h := z_t h hc
        clear hc
        refine lv_iload_n hx hb dX11_ask_105 rfl (lv_at hl 2 rfl) ?_
        cases h
        exact z_iret C0 hr hlk hW hS dX11_ask_106
      · replace h := z_f h hc
        clear hc
        refine lv_iload hx hb dX11_ask_57 (lv_at hl 4 rfl) ?_
        refine lv_iload_n hx hb dX11_ask_59 rfl (lv_at hl 0 rfl) ?_
        refine lv_iload hx hb dX11_ask_60 (lv_at hl 5 rfl) ?_
        refine lv_ishr hx hb dX11_ask_62 ?_
        refine lv_iconst (v := (1 : Int32)) hx hb dX11_ask_63 (by decide) ?_
        refine lv_iand hx hb dX11_ask_64 ?_
        refine lv_iadd hx hb dX11_ask_65 ?_
        refine lv_topi (fun z5 e1 => ?_)
        replace h := z_ly h e1
        clear e1
        refine lv_istore (lv' := [(5, .int z5), (1, .int x1), (2, .int x2), (3, .int x3), (4, .int x4), (6, .int x6)]) hx hb dX11_ask_66 hl (by decide) rfl (fun ls hl => ?_)
        refine lv_iload hx hb dX11_ask_68 (lv_at hl 0 rfl) ?_
        refine lv_iload_n hx hb dX11_ask_70 rfl (lv_at hl 2 rfl) ?_
        refine lv_iload hx hb dX11_ask_71 (lv_at hl 0 rfl) ?_
        refine lv_isub hx hb dX11_ask_73 ?_
        obtain ⟨r6, hq⟩ : ∃ y, f_X11_greater z5 (x2 - z5) u = y := ⟨_, rfl⟩
        replace h := z_lz h hq
        refine z_csi (As := [.int z5, .int (x2 - z5)]) C0 hml hl.1 hW hS (c_X11_greater l D A b z5 (x2 - z5) u hq) ms_X11_258 ⟨Nat.le_of_ble_eq_true rfl, Nat.le_of_ble_eq_true rfl⟩ rfl rfl (Nat.le_of_ble_eq_true rfl) dX11_ask_74 (fun H locs hW hS => ?_)
        clear hq
        refine lv_iload hx hb dX11_ask_77 (lv_at hl 4 rfl) ?_
        refine lv_icmp_lt (tgt := 85) hx hb dX11_ask_79 (by decide) (fun hc => ?_) (fun hc => ?_)
        · replace h := z_t h hc
          clear hc
          refine lv_iload hx hb dX11_ask_85 (lv_at hl 0 rfl) ?_
          refine lv_iload_n hx hb dX11_ask_87 rfl (lv_at hl 2 rfl) ?_
          refine lv_iload hx hb dX11_ask_88 (lv_at hl 0 rfl) ?_
          refine lv_isub hx hb dX11_ask_90 ?_
          obtain ⟨r7, hq⟩ : ∃ y, f_X11_greater z5 (x2 - z5) u = y := ⟨_, rfl⟩
          replace h := z_lz h hq
          refine z_csi (As := [.int z5, .int (x2 - z5)]) C0 hml hl.1 hW hS (c_X11_greater l D A b z5 (x2 - z5) u hq) ms_X11_258 ⟨Nat.le_of_ble_eq_true rfl, Nat.le_of_ble_eq_true rfl⟩ rfl rfl (Nat.le_of_ble_eq_true rfl) dX11_ask_91 (fun H locs hW hS => ?_)
          clear hq
          refine lv_istore (lv' := [(4, .int r7), (5, .int z5), (1, .int x1), (2, .int x2), (3, .int x3), (6, .int x6)]) hx hb dX11_ask_94 hl (by decide) rfl (fun ls hl => ?_)
          refine lv_iload hx hb dX11_ask_96 (lv_at hl 5 rfl) ?_
          refine lv_istore_n (lv' := [(3, .int x6), (4, .int r7), (5, .int z5), (1, .int x1), (2, .int x2), (6, .int x6)]) hx hb dX11_ask_98 rfl hl (by decide) rfl (fun ls hl => ?_)
          refine lv_iinc (v := x6 + (1 : Int32)) (lv' := [(6, .int (x6 + (1 : Int32))), (3, .int x6), (4, .int r7), (5, .int z5), (1, .int x1), (2, .int x2)]) hx hb dX11_ask_99 hl (k := 5) rfl rfl (by decide) rfl (fun ls hl => ?_)
          refine lv_goto (tgt := 46) hx hb dX11_ask_102 (by decide) ?_
          exact ih _ _ _ _ _ _ _ _ _ _ h hW hS (lv_sub hl [4, 5, 1, 2, 3, 0] rfl)
        · replace h := z_f h hc
          clear hc
          refine lv_goto (tgt := 99) hx hb dX11_ask_82 (by decide) ?_
          refine lv_iinc (v := x6 + (1 : Int32)) (lv' := [(6, .int (x6 + (1 : Int32))), (5, .int z5), (1, .int x1), (2, .int x2), (3, .int x3), (4, .int x4)]) hx hb dX11_ask_99 hl (k := 5) rfl rfl (by decide) rfl (fun ls hl => ?_)
          refine lv_goto (tgt := 46) hx hb dX11_ask_102 (by decide) ?_
          exact ih _ _ _ _ _ _ _ _ _ _ h hW hS (lv_sub hl [2, 3, 4, 5, 1, 0] rfl)
theorem f_X11_ask_e  (u : zU) : f_X11_ask u = z_b2 (f_X11_heights u) (fun r1 u2 => if r1 = (-1 : Int32) then (z_let (z_up u2 0 0 (1 : Int32)) (fun u8 => if (u8 0 0) ≤ 0 then ((f_X11_bits r1 u8).bind (fun r9 => f_X11_ask_46 5000 r1 r9 (-1 : Int32) (2000000000 : Int32) (0 : Int32) (0 : Int32) u8)) else (some ((0 : Int32), u8)))) else (z_let (z_up u2 0 0 (0 : Int32)) (fun u3 => if (u3 0 0) ≤ 0 then ((f_X11_bits r1 u3).bind (fun r4 => f_X11_ask_46 5000 r1 r4 (-1 : Int32) (2000000000 : Int32) (0 : Int32) (0 : Int32) u3)) else (some ((0 : Int32), u3))))) := rfl
set_option maxRecDepth 100000 in
set_option maxHeartbeats 4000000 in
theorem c_X11_ask (l : Launch) (D : zD) (A : Nat → Prop) (b : Nat)  (u : zU) {v : Int32} {u' : zU} (h : f_X11_ask u = some (v, u')) : z_M l D A b gM yX11_ask cX11_ask 7 (some .int) 1 26 [.ref (b + 0)] u (some (.int v)) u' := by
  refine z_enter (by decide) (Nat.le_of_ble_eq_true rfl) ?_
  intro p e s m below meth c ls C0 hr hml hlk hW hS hl
  have hl : lv_has ls 7 [(0, .ref (b + 0))] := hl
  have hx := C0.1
  have hb := C0.2.1
  rw [f_X11_ask_e] at h
  refine lv_aload_n hx hb dX11_ask_0 rfl (lv_at hl 0 rfl) ?_
  replace h := z_bd2 h
  obtain ⟨r1, u2, hq, h⟩ := h
  refine z_cvi (As := []) C0 hml hl.1 hW hS (c_X11_heights l D A b u hq) mv_X11_344 rfl ⟨Nat.le_of_ble_eq_true rfl, Nat.le_of_ble_eq_true rfl⟩ rfl rfl (Nat.le_of_ble_eq_true rfl) dX11_ask_1 (fun H locs hW hS => ?_)
  clear hq
  refine lv_istore_n (lv' := [(1, .int r1), (0, .ref (b + 0))]) hx hb dX11_ask_4 rfl hl (by decide) rfl (fun ls hl => ?_)
  refine lv_aload_n hx hb dX11_ask_5 rfl (lv_at hl 1 rfl) ?_
  refine lv_iload_n hx hb dX11_ask_6 rfl (lv_at hl 0 rfl) ?_
  refine lv_iconst (v := (-1 : Int32)) hx hb dX11_ask_7 (by decide) ?_
  refine lv_icmp_ne (tgt := 15) hx hb dX11_ask_8 (by decide) (fun hc => ?_) (fun hc => ?_)
  · replace h := z_f h hc
    clear hc
    refine lv_iconst (v := (0 : Int32)) hx hb dX11_ask_15 (by decide) ?_
    refine z_puti C0 hW hS fl_X11_42 rfl rfl rfl rfl dX11_ask_16 (fun H locs u3 e1 hW hS => ?_)
    replace h := z_ly h e1
    clear e1
    refine lv_aload_n hx hb dX11_ask_19 rfl (lv_at hl 1 rfl) ?_
    refine z_geti C0 hW fl_X11_42 rfl rfl dX11_ask_20 ?_
    refine lv_if_le (tgt := 28) hx hb dX11_ask_23 (by decide) (fun hc => ?_) (fun hc => ?_)
    · replace h := z_t h hc
      clear hc
      refine lv_iload_n hx hb dX11_ask_28 rfl (lv_at hl 0 rfl) ?_
      replace h := z_bd h
      obtain ⟨r4, hq, h⟩ := h
      refine z_csi (As := [.int r1]) C0 hml hl.1 hW hS (c_X11_bits l D A b r1 u3 hq) ms_X11_57 ⟨Nat.le_of_ble_eq_true rfl, Nat.le_of_ble_eq_true rfl⟩ rfl rfl (Nat.le_of_ble_eq_true rfl) dX11_ask_29 (fun H locs hW hS => ?_)
      clear hq
      refine lv_istore_n (lv' := [(2, .int r4), (1, .int r1), (0, .ref (b + 0))]) hx hb dX11_ask_32 rfl hl (by decide) rfl (fun ls hl => ?_)
      refine lv_iconst (v := (-1 : Int32)) hx hb dX11_ask_33 (by decide) ?_
      refine lv_istore_n (lv' := [(3, .int (-1 : Int32)), (2, .int r4), (1, .int r1), (0, .ref (b + 0))]) hx hb dX11_ask_34 rfl hl (by decide) rfl (fun ls hl => ?_)
      refine lv_ldcw (own := yX11_ask.cls) (v := (2000000000 : Int32)) hx hb C0.2.2.2.1 (C0.2.2.1 _ k_X11_330) dX11_ask_35 ?_
      refine lv_istore (lv' := [(4, .int (2000000000 : Int32)), (3, .int (-1 : Int32)), (2, .int r4), (1, .int r1), (0, .ref (b + 0))]) hx hb dX11_ask_38 hl (by decide) rfl (fun ls hl => ?_)
      refine lv_iconst (v := (0 : Int32)) hx hb dX11_ask_40 (by decide) ?_
      refine lv_istore (lv' := [(5, .int (0 : Int32)), (4, .int (2000000000 : Int32)), (3, .int (-1 : Int32)), (2, .int r4), (1, .int r1), (0, .ref (b + 0))]) hx hb dX11_ask_41 hl (by decide) rfl (fun ls hl => ?_)
      refine lv_iconst (v := (0 : Int32)) hx hb dX11_ask_43 (by decide) ?_
      refine lv_istore (lv' := [(6, .int (0 : Int32)), (5, .int (0 : Int32)), (4, .int (2000000000 : Int32)), (3, .int (-1 : Int32)), (2, .int r4), (1, .int r1), (0, .ref (b + 0))]) hx hb dX11_ask_44 hl (by decide) rfl (fun ls hl => ?_)
      exact l_X11_ask_46 C0 hr hml hlk 5000 _ _ _ _ _ _ _ _ _ _ h hW hS (lv_sub hl [5, 4, 3, 2, 1, 0] rfl)
    · replace h := z_f h hc
      clear hc
      refine lv_iconst (v := (0 : Int32)) hx hb dX11_ask_26 (by decide) ?_
      cases h
      exact z_iret C0 hr hlk hW hS dX11_ask_27
  · replace h := z_t h hc
    clear hc
    refine lv_iconst (v := (1 : Int32)) hx hb dX11_ask_11 (by decide) ?_
    refine lv_goto (tgt := 16) hx hb dX11_ask_12 (by decide) ?_
    refine z_puti C0 hW hS fl_X11_42 rfl rfl rfl rfl dX11_ask_16 (fun H locs u8 e1 hW hS => ?_)
    replace h := z_ly h e1
    clear e1
    refine lv_aload_n hx hb dX11_ask_19 rfl (lv_at hl 1 rfl) ?_
    refine z_geti C0 hW fl_X11_42 rfl rfl dX11_ask_20 ?_
    refine lv_if_le (tgt := 28) hx hb dX11_ask_23 (by decide) (fun hc => ?_) (fun hc => ?_)
    · replace h := z_t h hc
      clear hc
      refine lv_iload_n hx hb dX11_ask_28 rfl (lv_at hl 0 rfl) ?_
      replace h := z_bd h
      obtain ⟨r9, hq, h⟩ := h
      refine z_csi (As := [.int r1]) C0 hml hl.1 hW hS (c_X11_bits l D A b r1 u8 hq) ms_X11_57 ⟨Nat.le_of_ble_eq_true rfl, Nat.le_of_ble_eq_true rfl⟩ rfl rfl (Nat.le_of_ble_eq_true rfl) dX11_ask_29 (fun H locs hW hS => ?_)
      clear hq
      refine lv_istore_n (lv' := [(2, .int r9), (1, .int r1), (0, .ref (b + 0))]) hx hb dX11_ask_32 rfl hl (by decide) rfl (fun ls hl => ?_)
      refine lv_iconst (v := (-1 : Int32)) hx hb dX11_ask_33 (by decide) ?_
      refine lv_istore_n (lv' := [(3, .int (-1 : Int32)), (2, .int r9), (1, .int r1), (0, .ref (b + 0))]) hx hb dX11_ask_34 rfl hl (by decide) rfl (fun ls hl => ?_)
      refine lv_ldcw (own := yX11_ask.cls) (v := (2000000000 : Int32)) hx hb C0.2.2.2.1 (C0.2.2.1 _ k_X11_330) dX11_ask_35 ?_
      refine lv_istore (lv' := [(4, .int (2000000000 : Int32)), (3, .int (-1 : Int32)), (2, .int r9), (1, .int r1), (0, .ref (b + 0))]) hx hb dX11_ask_38 hl (by decide) rfl (fun ls hl => ?_)
      refine lv_iconst (v := (0 : Int32)) hx hb dX11_ask_40 (by decide) ?_
      refine lv_istore (lv' := [(5, .int (0 : Int32)), (4, .int (2000000000 : Int32)), (3, .int (-1 : Int32)), (2, .int r9), (1, .int r1), (0, .ref (b + 0))]) hx hb dX11_ask_41 hl (by decide) rfl (fun ls hl => ?_)
      refine lv_iconst (v := (0 : Int32)) hx hb dX11_ask_43 (by decide) ?_
      refine lv_istore (lv' := [(6, .int (0 : Int32)), (5, .int (0 : Int32)), (4, .int (2000000000 : Int32)), (3, .int (-1 : Int32)), (2, .int r9), (1, .int r1), (0, .ref (b + 0))]) hx hb dX11_ask_44 hl (by decide) rfl (fun ls hl => ?_)
      exact l_X11_ask_46 C0 hr hml hlk 5000 _ _ _ _ _ _ _ _ _ _ h hW hS (lv_sub hl [5, 4, 3, 2, 1, 0] rfl)
    · replace h := z_f h hc
      clear hc
      refine lv_iconst (v := (0 : Int32)) hx hb dX11_ask_26 (by decide) ?_
      cases h
      exact z_iret C0 hr hlk hW hS dX11_ask_27
def f_X11_isDraw (a1 : Int32) (u : zU) : Bool :=
  z_let (f_X11_isIn a1 (0 : Int32) ((u 1 7) - (1 : Int32)) u) (fun t1 => t1)
theorem f_X11_isDraw_e (a1 : Int32) (u : zU) : f_X11_isDraw a1 u = z_let (f_X11_isIn a1 (0 : Int32) ((u 1 7) - (1 : Int32)) u) (fun t1 => t1) := rfl
set_option maxRecDepth 100000 in
set_option maxHeartbeats 4000000 in
theorem c_X11_isDraw (l : Launch) (D : zD) (A : Nat → Prop) (b : Nat) (a1 : Int32) (u : zU) {v : Bool} (h : f_X11_isDraw a1 u = v) : z_M l D A b gM yX11_isDraw cX11_isDraw 2 (some .boolean) 1 22 [.ref (b + 0), .int a1] u (some (.int (bI v))) u := by
  refine z_enter (by decide) (Nat.le_of_ble_eq_true rfl) ?_
  intro p e s m below meth c ls C0 hr hml hlk hW hS hl
  have hl : lv_has ls 2 [(0, .ref (b + 0)), (1, .int a1)] := hl
  have hx := C0.1
  have hb := C0.2.1
  rw [f_X11_isDraw_e] at h
  refine lv_iload_n hx hb dX11_isDraw_0 rfl (lv_at hl 1 rfl) ?_
  refine lv_iconst (v := (0 : Int32)) hx hb dX11_isDraw_1 (by decide) ?_
  refine lv_aload_n hx hb dX11_isDraw_2 rfl (lv_at hl 0 rfl) ?_
  refine z_getr (o := 1) C0 hW fl_X11_7 rfl rfl rfl dX11_isDraw_3 ?_
  refine lv_bipush (v := (7 : Int32)) hx hb dX11_isDraw_6 (by decide) ?_
  refine z_iald (k := 7) (n := 705) C0 hW rfl rfl (by decide) (by decide) dX11_isDraw_8 ?_
  refine lv_iconst (v := (1 : Int32)) hx hb dX11_isDraw_9 (by decide) ?_
  refine lv_isub hx hb dX11_isDraw_10 ?_
  obtain ⟨t1, hq⟩ : ∃ y, f_X11_isIn a1 (0 : Int32) ((u 1 7) - (1 : Int32)) u = y := ⟨_, rfl⟩
  replace h := z_lz h hq
  refine z_csi (As := [.int a1, .int (0 : Int32), .int ((u 1 7) - (1 : Int32))]) C0 hml hl.1 hW hS (c_X11_isIn l D A b a1 (0 : Int32) ((u 1 7) - (1 : Int32)) u hq) ms_X11_45 ⟨Nat.le_of_ble_eq_true rfl, Nat.le_of_ble_eq_true rfl⟩ rfl rfl (Nat.le_of_ble_eq_true rfl) dX11_isDraw_11 (fun H locs hW hS => ?_)
  clear hq
  cases h
  exact z_zret C0 hr hlk hW hS dX11_isDraw_14
def f_X11_isSame_19 : Nat → Int32 → zU → Option (Bool)
  | 0, _, _ => none
  | n + 1, x1, u =>
    if (u 1 3) ≤ x1 then (some true) else ((f_X11_of x1 (0 : Int32) u).bind (fun r1 => if z_in (((25 : Int32) + ((4 : Int32) * x1)) + (0 : Int32)) 305 = true then (z_let (u 3 (((25 : Int32) + ((4 : Int32) * x1)) + (0 : Int32)).toNatClampNeg) (fun z2 => if r1 = z2 then (f_X11_isSame_19 n (x1 + (1 : Int32)) u) else (some false))) else none))
theorem f_X11_isSame_19_s (n : Nat) (x1 : Int32) (u : zU) : f_X11_isSame_19 (n + 1) x1 u = if (u 1 3) ≤ x1 then (some true) else ((f_X11_of x1 (0 : Int32) u).bind (fun r1 => if z_in (((25 : Int32) + ((4 : Int32) * x1)) + (0 : Int32)) 305 = true then (z_let (u 3 (((25 : Int32) + ((4 : Int32) * x1)) + (0 : Int32)).toNatClampNeg) (fun z2 => if r1 = z2 then (f_X11_isSame_19 n (x1 + (1 : Int32)) u) else (some false))) else none)) := rfl
def f_X11_isSame  (u : zU) : Option (Bool) :=
  if (u 1 4) = (u 3 4) then (f_X11_isSame_19 5000 (0 : Int32) u) else (some false)
set_option maxRecDepth 100000 in
set_option maxHeartbeats 4000000 in
theorem l_X11_isSame_19 {l : Launch} {D : zD} {A : Nat → Prop} {b : Nat} {p : Program} {e : Env} {s : State} {m : MethodId} {args : Array Value} {below : List Frame} {meth : Method} {c : Code} {v : Bool} {u : zU} (C0 : z_C p c cX11_isSame s m args yX11_isSame.cls D A) (hr : meth.sig.returnType = (some .boolean)) (hml : c.maxLocals = 2) (hlk : meth.locks = false) : ∀ (n : Nat) (x1 : Int32) (H : Heap) (locs : List Loc) (ls : Array Slot), f_X11_isSame_19 n x1 u = some v → z_W D A b gM u H → va_S A s.heap H locs → lv_has ls 2 [(0, .ref (b + 0)), (1, .int x1)] → W p l e { frames := 1, cells := 0, slots := 0, locals := 22 } s m args below meth c H locs 0 0 (z_End D A b gM below args s (some (.int (bI v))) u) (F0 m 19 ls []) := by
  have hx := C0.1
  have hb := C0.2.1
  intro n
  induction n with
  | zero => intro x1 H locs ls h hW hS hl; cases h
  | succ n ih =>
    intro x1 H locs ls h hW hS hl
    rw [f_X11_isSame_19_s] at h
    refine lv_iload_n hx hb dX11_isSame_19 rfl (lv_at hl 1 rfl) ?_
    refine lv_aload_n hx hb dX11_isSame_20 rfl (lv_at hl 0 rfl) ?_
    refine z_getr (o := 1) C0 hW fl_X11_7 rfl rfl rfl dX11_isSame_21 ?_
    refine lv_iconst (v := (3 : Int32)) hx hb dX11_isSame_24 (by decide) ?_
    refine z_iald (k := 3) (n := 705) C0 hW rfl rfl (by decide) (by decide) dX11_isSame_25 ?_
    refine lv_icmp_ge (tgt := 59) hx hb dX11_isSame_26 (by decide) (fun hc => ?_) (fun hc => ?_)
    · replace h := z_t h hc
      clear hc
      refine lv_iconst (v := (1 : Int32)) hx hb dX11_isSame_59 (by decide) ?_
      cases h
      exact z_zret (x := true) C0 hr hlk hW hS dX11_isSame_60
    · replace h := z_f h hc
      clear hc
      refine lv_aload_n hx hb dX11_isSame_29 rfl (lv_at hl 0 rfl) ?_
      refine lv_iload_n hx hb dX11_isSame_30 rfl (lv_at hl 1 rfl) ?_
      refine lv_iconst (v := (0 : Int32)) hx hb dX11_isSame_31 (by decide) ?_
      replace h := z_bd h
      obtain ⟨r1, hq, h⟩ := h
      refine z_cvi (As := [.int x1, .int (0 : Int32)]) C0 hml hl.1 hW hS (c_X11_of l D A b x1 (0 : Int32) u hq) mv_X11_49 rfl ⟨Nat.le_of_ble_eq_true rfl, Nat.le_of_ble_eq_true rfl⟩ rfl rfl (Nat.le_of_ble_eq_true rfl) dX11_isSame_32 (fun H locs hW hS => ?_)
      clear hq
      refine lv_aload_n hx hb dX11_isSame_35 rfl (lv_at hl 0 rfl) ?_
      refine z_getr (o := 3) C0 hW fl_X11_16 rfl rfl rfl dX11_isSame_36 ?_
      refine lv_bipush (v := (25 : Int32)) hx hb dX11_isSame_39 (by decide) ?_
      refine lv_iconst (v := (4 : Int32)) hx hb dX11_isSame_41 (by decide) ?_
      refine lv_iload_n hx hb dX11_isSame_42 rfl (lv_at hl 1 rfl) ?_
      refine lv_imul hx hb dX11_isSame_43 ?_
      refine lv_iadd hx hb dX11_isSame_44 ?_
      refine lv_iconst (v := (0 : Int32)) hx hb dX11_isSame_45 (by decide) ?_
      refine lv_iadd hx hb dX11_isSame_46 ?_
      replace h := z_if h
      obtain ⟨hin, h⟩ := h
      refine z_iald (n := 305) C0 hW rfl rfl hin rfl dX11_isSame_47 ?_
      clear hin
      refine lv_topi (fun z2 e1 => ?_)
      replace h := z_ly h e1
      clear e1
      refine lv_icmp_eq (tgt := 53) hx hb dX11_isSame_48 (by decide) (fun hc => ?_) (fun hc => ?_)
      · replace h := z_t h hc
        clear hc
        refine lv_iinc (v := x1 + (1 : Int32)) (lv' := [(1, .int (x1 + (1 : Int32))), (0, .ref (b + 0))]) hx hb dX11_isSame_53 hl (k := 1) rfl rfl (by decide) rfl (fun ls hl => ?_)
        refine lv_goto (tgt := 19) hx hb dX11_isSame_56 (by decide) ?_
        exact ih _ _ _ _ h hW hS (lv_sub hl [1, 0] rfl)
      · replace h := z_f h hc
        clear hc
        refine lv_iconst (v := (0 : Int32)) hx hb dX11_isSame_51 (by decide) ?_
        cases h
        exact z_zret (x := false) C0 hr hlk hW hS dX11_isSame_52
theorem f_X11_isSame_e  (u : zU) : f_X11_isSame u = if (u 1 4) = (u 3 4) then (f_X11_isSame_19 5000 (0 : Int32) u) else (some false) := rfl
set_option maxRecDepth 100000 in
set_option maxHeartbeats 4000000 in
theorem c_X11_isSame (l : Launch) (D : zD) (A : Nat → Prop) (b : Nat)  (u : zU) {v : Bool} (h : f_X11_isSame u = some v) : z_M l D A b gM yX11_isSame cX11_isSame 2 (some .boolean) 1 22 [.ref (b + 0)] u (some (.int (bI v))) u := by
  refine z_enter (by decide) (Nat.le_of_ble_eq_true rfl) ?_
  intro p e s m below meth c ls C0 hr hml hlk hW hS hl
  have hl : lv_has ls 2 [(0, .ref (b + 0))] := hl
  have hx := C0.1
  have hb := C0.2.1
  rw [f_X11_isSame_e] at h
  refine lv_aload_n hx hb dX11_isSame_0 rfl (lv_at hl 0 rfl) ?_
  refine z_getr (o := 1) C0 hW fl_X11_7 rfl rfl rfl dX11_isSame_1 ?_
  refine lv_iconst (v := (4 : Int32)) hx hb dX11_isSame_4 (by decide) ?_
  refine z_iald (k := 4) (n := 705) C0 hW rfl rfl (by decide) (by decide) dX11_isSame_5 ?_
  refine lv_aload_n hx hb dX11_isSame_6 rfl (lv_at hl 0 rfl) ?_
  refine z_getr (o := 3) C0 hW fl_X11_16 rfl rfl rfl dX11_isSame_7 ?_
  refine lv_iconst (v := (4 : Int32)) hx hb dX11_isSame_10 (by decide) ?_
  refine z_iald (k := 4) (n := 305) C0 hW rfl rfl (by decide) (by decide) dX11_isSame_11 ?_
  refine lv_icmp_eq (tgt := 17) hx hb dX11_isSame_12 (by decide) (fun hc => ?_) (fun hc => ?_)
  · replace h := z_t h hc
    clear hc
    refine lv_iconst (v := (0 : Int32)) hx hb dX11_isSame_17 (by decide) ?_
    refine lv_istore_n (lv' := [(1, .int (0 : Int32)), (0, .ref (b + 0))]) hx hb dX11_isSame_18 rfl hl (by decide) rfl (fun ls hl => ?_)
    exact l_X11_isSame_19 C0 hr hml hlk 5000 _ _ _ _ h hW hS (lv_sub hl [1, 0] rfl)
  · replace h := z_f h hc
    clear hc
    refine lv_iconst (v := (0 : Int32)) hx hb dX11_isSame_15 (by decide) ?_
    cases h
    exact z_zret (x := false) C0 hr hlk hW hS dX11_isSame_16
def f_X11_richest_9 : Nat → Int32 → Int32 → zU → Option (Int32 × zU)
  | 0, _, _, _ => none
  | n + 1, x1, x2, u =>
    if (u 1 3) ≤ x2 then (some (x1, u)) else (if x1 = (-1 : Int32) then (f_X11_richest_9 n x2 (x2 + (1 : Int32)) u) else ((f_X11_of x2 (2 : Int32) u).bind (fun r2 => (f_X11_of x1 (2 : Int32) u).bind (fun r3 => if r2 ≤ r3 then (f_X11_richest_9 n x1 (x2 + (1 : Int32)) u) else (f_X11_richest_9 n x2 (x2 + (1 : Int32)) u)))))
theorem f_X11_richest_9_s (n : Nat) (x1 : Int32) (x2 : Int32) (u : zU) : f_X11_richest_9 (n + 1) x1 x2 u = if (u 1 3) ≤ x2 then (some (x1, u)) else (if x1 = (-1 : Int32) then (f_X11_richest_9 n x2 (x2 + (1 : Int32)) u) else ((f_X11_of x2 (2 : Int32) u).bind (fun r2 => (f_X11_of x1 (2 : Int32) u).bind (fun r3 => if r2 ≤ r3 then (f_X11_richest_9 n x1 (x2 + (1 : Int32)) u) else (f_X11_richest_9 n x2 (x2 + (1 : Int32)) u))))) := rfl
def f_X11_richest  (u : zU) : Option (Int32 × zU) :=
  z_let (z_up u 0 0 (0 : Int32)) (fun u1 => f_X11_richest_9 5000 (-1 : Int32) (0 : Int32) u1)
set_option maxRecDepth 100000 in
set_option maxHeartbeats 4000000 in
theorem l_X11_richest_9 {l : Launch} {D : zD} {A : Nat → Prop} {b : Nat} {p : Program} {e : Env} {s : State} {m : MethodId} {args : Array Value} {below : List Frame} {meth : Method} {c : Code} {v : Int32} {u' : zU} (C0 : z_C p c cX11_richest s m args yX11_richest.cls D A) (hr : meth.sig.returnType = (some .int)) (hml : c.maxLocals = 3) (hlk : meth.locks = false) : ∀ (n : Nat) (x1 : Int32) (x2 : Int32) (u : zU) (H : Heap) (locs : List Loc) (ls : Array Slot), f_X11_richest_9 n x1 x2 u = some (v, u') → z_W D A b gM u H → va_S A s.heap H locs → lv_has ls 3 [(0, .ref (b + 0)), (1, .int x1), (2, .int x2)] → W p l e { frames := 1, cells := 0, slots := 0, locals := 22 } s m args below meth c H locs 0 0 (z_End D A b gM below args s (some (.int v)) u') (F0 m 9 ls []) := by
  have hx := C0.1
  have hb := C0.2.1
  intro n
  induction n with
  | zero => intro x1 x2 u H locs ls h hW hS hl; cases h
  | succ n ih =>
    intro x1 x2 u H locs ls h hW hS hl
    rw [f_X11_richest_9_s] at h
    refine lv_iload_n hx hb dX11_richest_9 rfl (lv_at hl 2 rfl) ?_
    refine lv_aload_n hx hb dX11_richest_10 rfl (lv_at hl 0 rfl) ?_
    refine z_getr (o := 1) C0 hW fl_X11_7 rfl rfl rfl dX11_richest_11 ?_
    refine lv_iconst (v := (3 : Int32)) hx hb dX11_richest_14 (by decide) ?_
    refine z_iald (k := 3) (n := 705) C0 hW rfl rfl (by decide) (by decide) dX11_richest_15 ?_
    refine lv_icmp_ge (tgt := 47) hx hb dX11_richest_16 (by decide) (fun hc => ?_) (fun hc => ?_)
    · replace h := z_t h hc
      clear hc
      refine lv_iload_n hx hb dX11_richest_47 rfl (lv_at hl 1 rfl) ?_
      cases h
      exact z_iret C0 hr hlk hW hS dX11_richest_48
    · replace h := z_f h hc
      clear hc
      refine lv_iload_n hx hb dX11_richest_19 rfl (lv_at hl 1 rfl) ?_
      refine lv_iconst (v := (-1 : Int32)) hx hb dX11_richest_20 (by decide) ?_
      refine lv_icmp_eq (tgt := 39) hx hb dX11_richest_21 (by decide) (fun hc => ?_) (fun hc => ?_)
      · replace h := z_t h hc
        clear hc
        refine lv_iload_n hx hb dX11_richest_39 rfl (lv_at hl 2 rfl) ?_
        refine lv_istore_n (lv' := [(1, .int x2), (0, .ref (b + 0)), (2, .int x2)]) hx hb dX11_richest_40 rfl hl (by decide) rfl (fun ls hl => ?_)
        refine lv_iinc (v := x2 + (1 : Int32)) (lv' := [(2, .int (x2 + (1 : Int32))), (1, .int x2), (0, .ref (b + 0))]) hx hb dX11_richest_41 hl (k := 2) rfl rfl (by decide) rfl (fun ls hl => ?_)
        refine lv_goto (tgt := 9) hx hb dX11_richest_44 (by decide) ?_
        exact ih _ _ _ _ _ _ h hW hS (lv_sub hl [2, 1, 0] rfl)
      · replace h := z_f h hc
        clear hc
        refine lv_aload_n hx hb dX11_richest_24 rfl (lv_at hl 0 rfl) ?_
        refine lv_iload_n hx hb dX11_richest_25 rfl (lv_at hl 2 rfl) ?_
        refine lv_iconst (v := (2 : Int32)) hx hb dX11_richest_26 (by decide) ?_
        replace h := z_bd h
        obtain ⟨r2, hq, h⟩ := h
        refine z_cvi (As := [.int x2, .int (2 : Int32)]) C0 hml hl.1 hW hS (c_X11_of l D A b x2 (2 : Int32) u hq) mv_X11_49 rfl ⟨Nat.le_of_ble_eq_true rfl, Nat.le_of_ble_eq_true rfl⟩ rfl rfl (Nat.le_of_ble_eq_true rfl) dX11_richest_27 (fun H locs hW hS => ?_)
        clear hq
        refine lv_aload_n hx hb dX11_richest_30 rfl (lv_at hl 0 rfl) ?_
        refine lv_iload_n hx hb dX11_richest_31 rfl (lv_at hl 1 rfl) ?_
        refine lv_iconst (v := (2 : Int32)) hx hb dX11_richest_32 (by decide) ?_
        replace h := z_bd h
        obtain ⟨r3, hq, h⟩ := h
        refine z_cvi (As := [.int x1, .int (2 : Int32)]) C0 hml hl.1 hW hS (c_X11_of l D A b x1 (2 : Int32) u hq) mv_X11_49 rfl ⟨Nat.le_of_ble_eq_true rfl, Nat.le_of_ble_eq_true rfl⟩ rfl rfl (Nat.le_of_ble_eq_true rfl) dX11_richest_33 (fun H locs hW hS => ?_)
        clear hq
        refine lv_icmp_le (tgt := 41) hx hb dX11_richest_36 (by decide) (fun hc => ?_) (fun hc => ?_)
        · replace h := z_t h hc
          clear hc
          refine lv_iinc (v := x2 + (1 : Int32)) (lv' := [(2, .int (x2 + (1 : Int32))), (0, .ref (b + 0)), (1, .int x1)]) hx hb dX11_richest_41 hl (k := 2) rfl rfl (by decide) rfl (fun ls hl => ?_)
          refine lv_goto (tgt := 9) hx hb dX11_richest_44 (by decide) ?_
          exact ih _ _ _ _ _ _ h hW hS (lv_sub hl [1, 2, 0] rfl)
        · replace h := z_f h hc
          clear hc
          refine lv_iload_n hx hb dX11_richest_39 rfl (lv_at hl 2 rfl) ?_
          refine lv_istore_n (lv' := [(1, .int x2), (0, .ref (b + 0)), (2, .int x2)]) hx hb dX11_richest_40 rfl hl (by decide) rfl (fun ls hl => ?_)
          refine lv_iinc (v := x2 + (1 : Int32)) (lv' := [(2, .int (x2 + (1 : Int32))), (1, .int x2), (0, .ref (b + 0))]) hx hb dX11_richest_41 hl (k := 2) rfl rfl (by decide) rfl (fun ls hl => ?_)
          refine lv_goto (tgt := 9) hx hb dX11_richest_44 (by decide) ?_
          exact ih _ _ _ _ _ _ h hW hS (lv_sub hl [2, 1, 0] rfl)
theorem f_X11_richest_e  (u : zU) : f_X11_richest u = z_let (z_up u 0 0 (0 : Int32)) (fun u1 => f_X11_richest_9 5000 (-1 : Int32) (0 : Int32) u1) := rfl
set_option maxRecDepth 100000 in
set_option maxHeartbeats 4000000 in
theorem c_X11_richest (l : Launch) (D : zD) (A : Nat → Prop) (b : Nat)  (u : zU) {v : Int32} {u' : zU} (h : f_X11_richest u = some (v, u')) : z_M l D A b gM yX11_richest cX11_richest 3 (some .int) 1 22 [.ref (b + 0)] u (some (.int v)) u' := by
  refine z_enter (by decide) (Nat.le_of_ble_eq_true rfl) ?_
  intro p e s m below meth c ls C0 hr hml hlk hW hS hl
  have hl : lv_has ls 3 [(0, .ref (b + 0))] := hl
  have hx := C0.1
  have hb := C0.2.1
  rw [f_X11_richest_e] at h
  refine lv_aload_n hx hb dX11_richest_0 rfl (lv_at hl 0 rfl) ?_
  refine lv_iconst (v := (0 : Int32)) hx hb dX11_richest_1 (by decide) ?_
  refine z_puti C0 hW hS fl_X11_42 rfl rfl rfl rfl dX11_richest_2 (fun H locs u1 e1 hW hS => ?_)
  replace h := z_ly h e1
  clear e1
  refine lv_iconst (v := (-1 : Int32)) hx hb dX11_richest_5 (by decide) ?_
  refine lv_istore_n (lv' := [(1, .int (-1 : Int32)), (0, .ref (b + 0))]) hx hb dX11_richest_6 rfl hl (by decide) rfl (fun ls hl => ?_)
  refine lv_iconst (v := (0 : Int32)) hx hb dX11_richest_7 (by decide) ?_
  refine lv_istore_n (lv' := [(2, .int (0 : Int32)), (1, .int (-1 : Int32)), (0, .ref (b + 0))]) hx hb dX11_richest_8 rfl hl (by decide) rfl (fun ls hl => ?_)
  exact l_X11_richest_9 C0 hr hml hlk 5000 _ _ _ _ _ _ h hW hS (lv_sub hl [2, 1, 0] rfl)
def f_X11_room_9 : Nat → Int32 → Int32 → zU → Option (Int32 × zU)
  | 0, _, _, _ => none
  | n + 1, x1, x2, u =>
    if (8 : Int32) ≤ x2 then (some (x1, u)) else ((f_X11_hasRoom x2 u).bind (fun t2 => if t2 = true then (z_let (x1 ||| ((1 : Int32) <<< (x2 &&& 31))) (fun z4 => f_X11_room_9 n z4 (x2 + (1 : Int32)) u)) else (z_let (x1 ||| (0 : Int32)) (fun z3 => f_X11_room_9 n z3 (x2 + (1 : Int32)) u))))
theorem f_X11_room_9_s (n : Nat) (x1 : Int32) (x2 : Int32) (u : zU) : f_X11_room_9 (n + 1) x1 x2 u = if (8 : Int32) ≤ x2 then (some (x1, u)) else ((f_X11_hasRoom x2 u).bind (fun t2 => if t2 = true then (z_let (x1 ||| ((1 : Int32) <<< (x2 &&& 31))) (fun z4 => f_X11_room_9 n z4 (x2 + (1 : Int32)) u)) else (z_let (x1 ||| (0 : Int32)) (fun z3 => f_X11_room_9 n z3 (x2 + (1 : Int32)) u)))) := rfl
def f_X11_room  (u : zU) : Option (Int32 × zU) :=
  z_let (z_up u 0 0 (0 : Int32)) (fun u1 => f_X11_room_9 5000 (0 : Int32) (0 : Int32) u1)
set_option maxRecDepth 100000 in
set_option maxHeartbeats 4000000 in
theorem l_X11_room_9 {l : Launch} {D : zD} {A : Nat → Prop} {b : Nat} {p : Program} {e : Env} {s : State} {m : MethodId} {args : Array Value} {below : List Frame} {meth : Method} {c : Code} {v : Int32} {u' : zU} (C0 : z_C p c cX11_room s m args yX11_room.cls D A) (hr : meth.sig.returnType = (some .int)) (hml : c.maxLocals = 3) (hlk : meth.locks = false) : ∀ (n : Nat) (x1 : Int32) (x2 : Int32) (u : zU) (H : Heap) (locs : List Loc) (ls : Array Slot), f_X11_room_9 n x1 x2 u = some (v, u') → z_W D A b gM u H → va_S A s.heap H locs → lv_has ls 3 [(0, .ref (b + 0)), (1, .int x1), (2, .int x2)] → W p l e { frames := 3, cells := 0, slots := 0, locals := 66 } s m args below meth c H locs 0 0 (z_End D A b gM below args s (some (.int v)) u') (F0 m 9 ls []) := by
  have hx := C0.1
  have hb := C0.2.1
  intro n
  induction n with
  | zero => intro x1 x2 u H locs ls h hW hS hl; cases h
  | succ n ih =>
    intro x1 x2 u H locs ls h hW hS hl
    rw [f_X11_room_9_s] at h
    refine lv_iload_n hx hb dX11_room_9 rfl (lv_at hl 2 rfl) ?_
    refine lv_bipush (v := (8 : Int32)) hx hb dX11_room_10 (by decide) ?_
    refine lv_icmp_ge (tgt := 39) hx hb dX11_room_12 (by decide) (fun hc => ?_) (fun hc => ?_)
    · replace h := z_t h hc
      clear hc
      refine lv_iload_n hx hb dX11_room_39 rfl (lv_at hl 1 rfl) ?_
      cases h
      exact z_iret C0 hr hlk hW hS dX11_room_40
    · replace h := z_f h hc
      clear hc
      refine lv_iload_n hx hb dX11_room_15 rfl (lv_at hl 1 rfl) ?_
      refine lv_aload_n hx hb dX11_room_16 rfl (lv_at hl 0 rfl) ?_
      refine lv_iload_n hx hb dX11_room_17 rfl (lv_at hl 2 rfl) ?_
      replace h := z_bd h
      obtain ⟨t2, hq, h⟩ := h
      refine z_cvi (As := [.int x2]) C0 hml hl.1 hW hS (c_X11_hasRoom l D A b x2 u hq) mv_X11_127 rfl ⟨Nat.le_of_ble_eq_true rfl, Nat.le_of_ble_eq_true rfl⟩ rfl rfl (Nat.le_of_ble_eq_true rfl) dX11_room_18 (fun H locs hW hS => ?_)
      clear hq
      refine z_ifeqZ C0 (tgt := 30) dX11_room_21 (by decide) (fun hc => ?_) (fun hc => ?_)
      · replace h := z_ff h hc
        clear hc
        refine lv_iconst (v := (0 : Int32)) hx hb dX11_room_30 (by decide) ?_
        refine lv_ior hx hb dX11_room_31 ?_
        refine lv_topi (fun z3 e1 => ?_)
        replace h := z_ly h e1
        clear e1
        refine lv_istore_n (lv' := [(1, .int z3), (0, .ref (b + 0)), (2, .int x2)]) hx hb dX11_room_32 rfl hl (by decide) rfl (fun ls hl => ?_)
        refine lv_iinc (v := x2 + (1 : Int32)) (lv' := [(2, .int (x2 + (1 : Int32))), (1, .int z3), (0, .ref (b + 0))]) hx hb dX11_room_33 hl (k := 2) rfl rfl (by decide) rfl (fun ls hl => ?_)
        refine lv_goto (tgt := 9) hx hb dX11_room_36 (by decide) ?_
        exact ih _ _ _ _ _ _ h hW hS (lv_sub hl [2, 1, 0] rfl)
      · replace h := z_t h hc
        clear hc
        refine lv_iconst (v := (1 : Int32)) hx hb dX11_room_24 (by decide) ?_
        refine lv_iload_n hx hb dX11_room_25 rfl (lv_at hl 2 rfl) ?_
        refine lv_ishl hx hb dX11_room_26 ?_
        refine lv_goto (tgt := 31) hx hb dX11_room_27 (by decide) ?_
        refine lv_ior hx hb dX11_room_31 ?_
        refine lv_topi (fun z4 e1 => ?_)
        replace h := z_ly h e1
        clear e1
        refine lv_istore_n (lv' := [(1, .int z4), (0, .ref (b + 0)), (2, .int x2)]) hx hb dX11_room_32 rfl hl (by decide) rfl (fun ls hl => ?_)
        refine lv_iinc (v := x2 + (1 : Int32)) (lv' := [(2, .int (x2 + (1 : Int32))), (1, .int z4), (0, .ref (b + 0))]) hx hb dX11_room_33 hl (k := 2) rfl rfl (by decide) rfl (fun ls hl => ?_)
        refine lv_goto (tgt := 9) hx hb dX11_room_36 (by decide) ?_
        exact ih _ _ _ _ _ _ h hW hS (lv_sub hl [2, 1, 0] rfl)
theorem f_X11_room_e  (u : zU) : f_X11_room u = z_let (z_up u 0 0 (0 : Int32)) (fun u1 => f_X11_room_9 5000 (0 : Int32) (0 : Int32) u1) := rfl
set_option maxRecDepth 100000 in
set_option maxHeartbeats 4000000 in
theorem c_X11_room (l : Launch) (D : zD) (A : Nat → Prop) (b : Nat)  (u : zU) {v : Int32} {u' : zU} (h : f_X11_room u = some (v, u')) : z_M l D A b gM yX11_room cX11_room 3 (some .int) 3 66 [.ref (b + 0)] u (some (.int v)) u' := by
  refine z_enter (by decide) (Nat.le_of_ble_eq_true rfl) ?_
  intro p e s m below meth c ls C0 hr hml hlk hW hS hl
  have hl : lv_has ls 3 [(0, .ref (b + 0))] := hl
  have hx := C0.1
  have hb := C0.2.1
  rw [f_X11_room_e] at h
  refine lv_aload_n hx hb dX11_room_0 rfl (lv_at hl 0 rfl) ?_
  refine lv_iconst (v := (0 : Int32)) hx hb dX11_room_1 (by decide) ?_
  refine z_puti C0 hW hS fl_X11_42 rfl rfl rfl rfl dX11_room_2 (fun H locs u1 e1 hW hS => ?_)
  replace h := z_ly h e1
  clear e1
  refine lv_iconst (v := (0 : Int32)) hx hb dX11_room_5 (by decide) ?_
  refine lv_istore_n (lv' := [(1, .int (0 : Int32)), (0, .ref (b + 0))]) hx hb dX11_room_6 rfl hl (by decide) rfl (fun ls hl => ?_)
  refine lv_iconst (v := (0 : Int32)) hx hb dX11_room_7 (by decide) ?_
  refine lv_istore_n (lv' := [(2, .int (0 : Int32)), (1, .int (0 : Int32)), (0, .ref (b + 0))]) hx hb dX11_room_8 rfl hl (by decide) rfl (fun ls hl => ?_)
  exact l_X11_room_9 C0 hr hml hlk 5000 _ _ _ _ _ _ h hW hS (lv_sub hl [2, 1, 0] rfl)
def f_X11_pairs_23 (K : Int32 → Int32 → zU → Option (Int32 × zU)) : Nat → Int32 → Int32 → Int32 → zU → Option (Int32 × zU)
  | 0, _, _, _, _ => none
  | n + 1, x1, x2, x3, u =>
    if (u 1 3) ≤ x3 then (K x1 (x2 + (1 : Int32)) u) else ((f_X11_waits x2 u).bind (fun t3 => if t3 = true then (z_let (x1 + (0 : Int32)) (fun z4 => f_X11_pairs_23 K n z4 x2 (x3 + (1 : Int32)) u)) else ((f_X11_of x2 (0 : Int32) u).bind (fun r5 => (f_X11_of x3 (0 : Int32) u).bind (fun r6 => if r5 = r6 then ((f_X11_of x2 (3 : Int32) u).bind (fun r8 => (f_X11_of x3 (3 : Int32) u).bind (fun r9 => if r8 = r9 then (z_let (x1 + (1 : Int32)) (fun z11 => f_X11_pairs_23 K n z11 x2 (x3 + (1 : Int32)) u)) else (z_let (x1 + (0 : Int32)) (fun z10 => f_X11_pairs_23 K n z10 x2 (x3 + (1 : Int32)) u))))) else (z_let (x1 + (0 : Int32)) (fun z7 => f_X11_pairs_23 K n z7 x2 (x3 + (1 : Int32)) u)))))))
theorem f_X11_pairs_23_s (K : Int32 → Int32 → zU → Option (Int32 × zU)) (n : Nat) (x1 : Int32) (x2 : Int32) (x3 : Int32) (u : zU) : f_X11_pairs_23 K (n + 1) x1 x2 x3 u = if (u 1 3) ≤ x3 then (K x1 (x2 + (1 : Int32)) u) else ((f_X11_waits x2 u).bind (fun t3 => if t3 = true then (z_let (x1 + (0 : Int32)) (fun z4 => f_X11_pairs_23 K n z4 x2 (x3 + (1 : Int32)) u)) else ((f_X11_of x2 (0 : Int32) u).bind (fun r5 => (f_X11_of x3 (0 : Int32) u).bind (fun r6 => if r5 = r6 then ((f_X11_of x2 (3 : Int32) u).bind (fun r8 => (f_X11_of x3 (3 : Int32) u).bind (fun r9 => if r8 = r9 then (z_let (x1 + (1 : Int32)) (fun z11 => f_X11_pairs_23 K n z11 x2 (x3 + (1 : Int32)) u)) else (z_let (x1 + (0 : Int32)) (fun z10 => f_X11_pairs_23 K n z10 x2 (x3 + (1 : Int32)) u))))) else (z_let (x1 + (0 : Int32)) (fun z7 => f_X11_pairs_23 K n z7 x2 (x3 + (1 : Int32)) u))))))) := rfl
def f_X11_pairs_9 : Nat → Int32 → Int32 → zU → Option (Int32 × zU)
  | 0, _, _, _ => none
  | n + 1, x1, x2, u =>
    if (u 1 3) ≤ x2 then (some (x1, u)) else (z_let (x2 + (1 : Int32)) (fun z2 => f_X11_pairs_23 (fun k1 k2 u => f_X11_pairs_9 n k1 k2 u) 5000 x1 x2 z2 u))
theorem f_X11_pairs_9_s (n : Nat) (x1 : Int32) (x2 : Int32) (u : zU) : f_X11_pairs_9 (n + 1) x1 x2 u = if (u 1 3) ≤ x2 then (some (x1, u)) else (z_let (x2 + (1 : Int32)) (fun z2 => f_X11_pairs_23 (fun k1 k2 u => f_X11_pairs_9 n k1 k2 u) 5000 x1 x2 z2 u)) := rfl
def f_X11_pairs  (u : zU) : Option (Int32 × zU) :=
  z_let (z_up u 0 0 (0 : Int32)) (fun u1 => f_X11_pairs_9 5000 (0 : Int32) (0 : Int32) u1)
set_option maxRecDepth 100000 in
set_option maxHeartbeats 4000000 in
theorem l_X11_pairs_23 {l : Launch} {D : zD} {A : Nat → Prop} {b : Nat} {p : Program} {e : Env} {s : State} {m : MethodId} {args : Array Value} {below : List Frame} {meth : Method} {c : Code} {v : Int32} {u' : zU} {K : Int32 → Int32 → zU → Option (Int32 × zU)} (C0 : z_C p c cX11_pairs s m args yX11_pairs.cls D A) (hr : meth.sig.returnType = (some .int)) (hml : c.maxLocals = 4) (hlk : meth.locks = false) (hK : ∀ (x1 : Int32) (x2 : Int32) (u : zU) (H : Heap) (locs : List Loc) (ls : Array Slot), K x1 x2 u = some (v, u') → z_W D A b gM u H → va_S A s.heap H locs → lv_has ls 4 [(0, .ref (b + 0)), (1, .int x1), (2, .int x2)] → W p l e { frames := 2, cells := 0, slots := 0, locals := 43 } s m args below meth c H locs 0 0 (z_End D A b gM below args s (some (.int v)) u') (F0 m 9 ls [])) : ∀ (n : Nat) (x1 : Int32) (x2 : Int32) (x3 : Int32) (u : zU) (H : Heap) (locs : List Loc) (ls : Array Slot), f_X11_pairs_23 K n x1 x2 x3 u = some (v, u') → z_W D A b gM u H → va_S A s.heap H locs → lv_has ls 4 [(0, .ref (b + 0)), (1, .int x1), (2, .int x2), (3, .int x3)] → W p l e { frames := 2, cells := 0, slots := 0, locals := 43 } s m args below meth c H locs 0 0 (z_End D A b gM below args s (some (.int v)) u') (F0 m 23 ls []) := by
  have hx := C0.1
  have hb := C0.2.1
  intro n
  induction n with
  | zero => intro x1 x2 x3 u H locs ls h hW hS hl; cases h
  | succ n ih =>
    intro x1 x2 x3 u H locs ls h hW hS hl
    rw [f_X11_pairs_23_s] at h
    refine lv_iload_n hx hb dX11_pairs_23 rfl (lv_at hl 3 rfl) ?_
    refine lv_aload_n hx hb dX11_pairs_24 rfl (lv_at hl 0 rfl) ?_
    refine z_getr (o := 1) C0 hW fl_X11_7 rfl rfl rfl dX11_pairs_25 ?_
    refine lv_iconst (v := (3 : Int32)) hx hb dX11_pairs_28 (by decide) ?_
    refine z_iald (k := 3) (n := 705) C0 hW rfl rfl (by decide) (by decide) dX11_pairs_29 ?_
    refine lv_icmp_ge (tgt := 85) hx hb dX11_pairs_30 (by decide) (fun hc => ?_) (fun hc => ?_)
    · replace h := z_t h hc
      clear hc
      refine lv_iinc (v := x2 + (1 : Int32)) (lv' := [(2, .int (x2 + (1 : Int32))), (0, .ref (b + 0)), (1, .int x1), (3, .int x3)]) hx hb dX11_pairs_85 hl (k := 2) rfl rfl (by decide) rfl (fun ls hl => ?_)
      refine lv_goto (tgt := 9) hx hb dX11_pairs_88 (by decide) ?_
      exact hK _ _ _ _ _ _ h hW hS (lv_sub hl [1, 2, 0] rfl)
    · replace h := z_f h hc
      clear hc
      refine lv_iload_n hx hb dX11_pairs_33 rfl (lv_at hl 1 rfl) ?_
      refine lv_aload_n hx hb dX11_pairs_34 rfl (lv_at hl 0 rfl) ?_
      refine lv_iload_n hx hb dX11_pairs_35 rfl (lv_at hl 2 rfl) ?_
      replace h := z_bd h
      obtain ⟨t3, hq, h⟩ := h
      refine z_cvi (As := [.int x2]) C0 hml hl.1 hW hS (c_X11_waits l D A b x2 u hq) mv_X11_255 rfl ⟨Nat.le_of_ble_eq_true rfl, Nat.le_of_ble_eq_true rfl⟩ rfl rfl (Nat.le_of_ble_eq_true rfl) dX11_pairs_36 (fun H locs hW hS => ?_)
      clear hq
      refine z_ifneZ C0 (tgt := 76) dX11_pairs_39 (by decide) (fun hc => ?_) (fun hc => ?_)
      · replace h := z_t h hc
        clear hc
        refine lv_iconst (v := (0 : Int32)) hx hb dX11_pairs_76 (by decide) ?_
        refine lv_iadd hx hb dX11_pairs_77 ?_
        refine lv_topi (fun z4 e1 => ?_)
        replace h := z_ly h e1
        clear e1
        refine lv_istore_n (lv' := [(1, .int z4), (0, .ref (b + 0)), (2, .int x2), (3, .int x3)]) hx hb dX11_pairs_78 rfl hl (by decide) rfl (fun ls hl => ?_)
        refine lv_iinc (v := x3 + (1 : Int32)) (lv' := [(3, .int (x3 + (1 : Int32))), (1, .int z4), (0, .ref (b + 0)), (2, .int x2)]) hx hb dX11_pairs_79 hl (k := 3) rfl rfl (by decide) rfl (fun ls hl => ?_)
        refine lv_goto (tgt := 23) hx hb dX11_pairs_82 (by decide) ?_
        exact ih _ _ _ _ _ _ _ h hW hS (lv_sub hl [2, 1, 3, 0] rfl)
      · replace h := z_ff h hc
        clear hc
        refine lv_aload_n hx hb dX11_pairs_42 rfl (lv_at hl 0 rfl) ?_
        refine lv_iload_n hx hb dX11_pairs_43 rfl (lv_at hl 2 rfl) ?_
        refine lv_iconst (v := (0 : Int32)) hx hb dX11_pairs_44 (by decide) ?_
        replace h := z_bd h
        obtain ⟨r5, hq, h⟩ := h
        refine z_cvi (As := [.int x2, .int (0 : Int32)]) C0 hml hl.1 hW hS (c_X11_of l D A b x2 (0 : Int32) u hq) mv_X11_49 rfl ⟨Nat.le_of_ble_eq_true rfl, Nat.le_of_ble_eq_true rfl⟩ rfl rfl (Nat.le_of_ble_eq_true rfl) dX11_pairs_45 (fun H locs hW hS => ?_)
        clear hq
        refine lv_aload_n hx hb dX11_pairs_48 rfl (lv_at hl 0 rfl) ?_
        refine lv_iload_n hx hb dX11_pairs_49 rfl (lv_at hl 3 rfl) ?_
        refine lv_iconst (v := (0 : Int32)) hx hb dX11_pairs_50 (by decide) ?_
        replace h := z_bd h
        obtain ⟨r6, hq, h⟩ := h
        refine z_cvi (As := [.int x3, .int (0 : Int32)]) C0 hml hl.1 hW hS (c_X11_of l D A b x3 (0 : Int32) u hq) mv_X11_49 rfl ⟨Nat.le_of_ble_eq_true rfl, Nat.le_of_ble_eq_true rfl⟩ rfl rfl (Nat.le_of_ble_eq_true rfl) dX11_pairs_51 (fun H locs hW hS => ?_)
        clear hq
        refine lv_icmp_ne (tgt := 76) hx hb dX11_pairs_54 (by decide) (fun hc => ?_) (fun hc => ?_)
        · replace h := z_f h hc
          clear hc
          refine lv_iconst (v := (0 : Int32)) hx hb dX11_pairs_76 (by decide) ?_
          refine lv_iadd hx hb dX11_pairs_77 ?_
          refine lv_topi (fun z7 e1 => ?_)
          replace h := z_ly h e1
          clear e1
          refine lv_istore_n (lv' := [(1, .int z7), (0, .ref (b + 0)), (2, .int x2), (3, .int x3)]) hx hb dX11_pairs_78 rfl hl (by decide) rfl (fun ls hl => ?_)
          refine lv_iinc (v := x3 + (1 : Int32)) (lv' := [(3, .int (x3 + (1 : Int32))), (1, .int z7), (0, .ref (b + 0)), (2, .int x2)]) hx hb dX11_pairs_79 hl (k := 3) rfl rfl (by decide) rfl (fun ls hl => ?_)
          refine lv_goto (tgt := 23) hx hb dX11_pairs_82 (by decide) ?_
          exact ih _ _ _ _ _ _ _ h hW hS (lv_sub hl [2, 1, 3, 0] rfl)
        · replace h := z_t h hc
          clear hc
          refine lv_aload_n hx hb dX11_pairs_57 rfl (lv_at hl 0 rfl) ?_
          refine lv_iload_n hx hb dX11_pairs_58 rfl (lv_at hl 2 rfl) ?_
          refine lv_iconst (v := (3 : Int32)) hx hb dX11_pairs_59 (by decide) ?_
          replace h := z_bd h
          obtain ⟨r8, hq, h⟩ := h
          refine z_cvi (As := [.int x2, .int (3 : Int32)]) C0 hml hl.1 hW hS (c_X11_of l D A b x2 (3 : Int32) u hq) mv_X11_49 rfl ⟨Nat.le_of_ble_eq_true rfl, Nat.le_of_ble_eq_true rfl⟩ rfl rfl (Nat.le_of_ble_eq_true rfl) dX11_pairs_60 (fun H locs hW hS => ?_)
          clear hq
          refine lv_aload_n hx hb dX11_pairs_63 rfl (lv_at hl 0 rfl) ?_
          refine lv_iload_n hx hb dX11_pairs_64 rfl (lv_at hl 3 rfl) ?_
          refine lv_iconst (v := (3 : Int32)) hx hb dX11_pairs_65 (by decide) ?_
          replace h := z_bd h
          obtain ⟨r9, hq, h⟩ := h
          refine z_cvi (As := [.int x3, .int (3 : Int32)]) C0 hml hl.1 hW hS (c_X11_of l D A b x3 (3 : Int32) u hq) mv_X11_49 rfl ⟨Nat.le_of_ble_eq_true rfl, Nat.le_of_ble_eq_true rfl⟩ rfl rfl (Nat.le_of_ble_eq_true rfl) dX11_pairs_66 (fun H locs hW hS => ?_)
          clear hq
          refine lv_icmp_ne (tgt := 76) hx hb dX11_pairs_69 (by decide) (fun hc => ?_) (fun hc => ?_)
          · replace h := z_f h hc
            clear hc
            refine lv_iconst (v := (0 : Int32)) hx hb dX11_pairs_76 (by decide) ?_
            refine lv_iadd hx hb dX11_pairs_77 ?_
            refine lv_topi (fun z10 e1 => ?_)
            replace h := z_ly h e1
            clear e1
            refine lv_istore_n (lv' := [(1, .int z10), (0, .ref (b + 0)), (2, .int x2), (3, .int x3)]) hx hb dX11_pairs_78 rfl hl (by decide) rfl (fun ls hl => ?_)
            refine lv_iinc (v := x3 + (1 : Int32)) (lv' := [(3, .int (x3 + (1 : Int32))), (1, .int z10), (0, .ref (b + 0)), (2, .int x2)]) hx hb dX11_pairs_79 hl (k := 3) rfl rfl (by decide) rfl (fun ls hl => ?_)
            refine lv_goto (tgt := 23) hx hb dX11_pairs_82 (by decide) ?_
            exact ih _ _ _ _ _ _ _ h hW hS (lv_sub hl [2, 1, 3, 0] rfl)
          · replace h := z_t h hc
            clear hc
            refine lv_iconst (v := (1 : Int32)) hx hb dX11_pairs_72 (by decide) ?_
            refine lv_goto (tgt := 77) hx hb dX11_pairs_73 (by decide) ?_
            refine lv_iadd hx hb dX11_pairs_77 ?_
            refine lv_topi (fun z11 e1 => ?_)
            replace h := z_ly h e1
            clear e1
            refine lv_istore_n (lv' := [(1, .int z11), (0, .ref (b + 0)), (2, .int x2), (3, .int x3)]) hx hb dX11_pairs_78 rfl hl (by decide) rfl (fun ls hl => ?_)
            refine lv_iinc (v := x3 + (1 : Int32)) (lv' := [(3, .int (x3 + (1 : Int32))), (1, .int z11), (0, .ref (b + 0)), (2, .int x2)]) hx hb dX11_pairs_79 hl (k := 3) rfl rfl (by decide) rfl (fun ls hl => ?_)
            refine lv_goto (tgt := 23) hx hb dX11_pairs_82 (by decide) ?_
            exact ih _ _ _ _ _ _ _ h hW hS (lv_sub hl [2, 1, 3, 0] rfl)
set_option maxRecDepth 100000 in
set_option maxHeartbeats 4000000 in
theorem l_X11_pairs_9 {l : Launch} {D : zD} {A : Nat → Prop} {b : Nat} {p : Program} {e : Env} {s : State} {m : MethodId} {args : Array Value} {below : List Frame} {meth : Method} {c : Code} {v : Int32} {u' : zU} (C0 : z_C p c cX11_pairs s m args yX11_pairs.cls D A) (hr : meth.sig.returnType = (some .int)) (hml : c.maxLocals = 4) (hlk : meth.locks = false) : ∀ (n : Nat) (x1 : Int32) (x2 : Int32) (u : zU) (H : Heap) (locs : List Loc) (ls : Array Slot), f_X11_pairs_9 n x1 x2 u = some (v, u') → z_W D A b gM u H → va_S A s.heap H locs → lv_has ls 4 [(0, .ref (b + 0)), (1, .int x1), (2, .int x2)] → W p l e { frames := 2, cells := 0, slots := 0, locals := 43 } s m args below meth c H locs 0 0 (z_End D A b gM below args s (some (.int v)) u') (F0 m 9 ls []) := by
  have hx := C0.1
  have hb := C0.2.1
  intro n
  induction n with
  | zero => intro x1 x2 u H locs ls h hW hS hl; cases h
  | succ n ih =>
    intro x1 x2 u H locs ls h hW hS hl
    rw [f_X11_pairs_9_s] at h
    refine lv_iload_n hx hb dX11_pairs_9 rfl (lv_at hl 2 rfl) ?_
    refine lv_aload_n hx hb dX11_pairs_10 rfl (lv_at hl 0 rfl) ?_
    refine z_getr (o := 1) C0 hW fl_X11_7 rfl rfl rfl dX11_pairs_11 ?_
    refine lv_iconst (v := (3 : Int32)) hx hb dX11_pairs_14 (by decide) ?_
    refine z_iald (k := 3) (n := 705) C0 hW rfl rfl (by decide) (by decide) dX11_pairs_15 ?_
    refine lv_icmp_ge (tgt := 91) hx hb dX11_pairs_16 (by decide) (fun hc => ?_) (fun hc => ?_)
    · replace h := z_t h hc
      clear hc
      refine lv_iload_n hx hb dX11_pairs_91 rfl (lv_at hl 1 rfl) ?_
      cases h
      exact z_iret C0 hr hlk hW hS dX11_pairs_92
    · replace h := z_f h hc
      clear hc
      refine lv_iload_n hx hb dX11_pairs_19 rfl (lv_at hl 2 rfl) ?_
      refine lv_iconst (v := (1 : Int32)) hx hb dX11_pairs_20 (by decide) ?_
      refine lv_iadd hx hb dX11_pairs_21 ?_
      refine lv_topi (fun z2 e1 => ?_)
      replace h := z_ly h e1
      clear e1
      refine lv_istore_n (lv' := [(3, .int z2), (0, .ref (b + 0)), (1, .int x1), (2, .int x2)]) hx hb dX11_pairs_22 rfl hl (by decide) rfl (fun ls hl => ?_)
      exact l_X11_pairs_23 C0 hr hml hlk (fun q0 q1 q2 q3 q4 q5 h hW hS hl => ih q0 q1 q2 q3 q4 q5 h hW hS hl) 5000 _ _ _ _ _ _ _ h hW hS (lv_sub hl [1, 2, 3, 0] rfl)
theorem f_X11_pairs_e  (u : zU) : f_X11_pairs u = z_let (z_up u 0 0 (0 : Int32)) (fun u1 => f_X11_pairs_9 5000 (0 : Int32) (0 : Int32) u1) := rfl
set_option maxRecDepth 100000 in
set_option maxHeartbeats 4000000 in
theorem c_X11_pairs (l : Launch) (D : zD) (A : Nat → Prop) (b : Nat)  (u : zU) {v : Int32} {u' : zU} (h : f_X11_pairs u = some (v, u')) : z_M l D A b gM yX11_pairs cX11_pairs 4 (some .int) 2 43 [.ref (b + 0)] u (some (.int v)) u' := by
  refine z_enter (by decide) (Nat.le_of_ble_eq_true rfl) ?_
  intro p e s m below meth c ls C0 hr hml hlk hW hS hl
  have hl : lv_has ls 4 [(0, .ref (b + 0))] := hl
  have hx := C0.1
  have hb := C0.2.1
  rw [f_X11_pairs_e] at h
  refine lv_aload_n hx hb dX11_pairs_0 rfl (lv_at hl 0 rfl) ?_
  refine lv_iconst (v := (0 : Int32)) hx hb dX11_pairs_1 (by decide) ?_
  refine z_puti C0 hW hS fl_X11_42 rfl rfl rfl rfl dX11_pairs_2 (fun H locs u1 e1 hW hS => ?_)
  replace h := z_ly h e1
  clear e1
  refine lv_iconst (v := (0 : Int32)) hx hb dX11_pairs_5 (by decide) ?_
  refine lv_istore_n (lv' := [(1, .int (0 : Int32)), (0, .ref (b + 0))]) hx hb dX11_pairs_6 rfl hl (by decide) rfl (fun ls hl => ?_)
  refine lv_iconst (v := (0 : Int32)) hx hb dX11_pairs_7 (by decide) ?_
  refine lv_istore_n (lv' := [(2, .int (0 : Int32)), (1, .int (0 : Int32)), (0, .ref (b + 0))]) hx hb dX11_pairs_8 rfl hl (by decide) rfl (fun ls hl => ?_)
  exact l_X11_pairs_9 C0 hr hml hlk 5000 _ _ _ _ _ _ h hW hS (lv_sub hl [2, 1, 0] rfl)
def f_X11_weakest_9 : Nat → Int32 → Int32 → zU → Option (Int32 × zU)
  | 0, _, _, _ => none
  | n + 1, x1, x2, u =>
    if (8 : Int32) ≤ x2 then (some (x1, u)) else (if z_in ((17 : Int32) + x2) 705 = true then (z_let (u 1 ((17 : Int32) + x2).toNatClampNeg) (fun z2 => if z_in ((17 : Int32) + x1) 705 = true then (z_let (u 1 ((17 : Int32) + x1).toNatClampNeg) (fun z3 => if z3 ≤ z2 then (f_X11_weakest_9 n x1 (x2 + (1 : Int32)) u) else (f_X11_weakest_9 n x2 (x2 + (1 : Int32)) u))) else none)) else none)
theorem f_X11_weakest_9_s (n : Nat) (x1 : Int32) (x2 : Int32) (u : zU) : f_X11_weakest_9 (n + 1) x1 x2 u = if (8 : Int32) ≤ x2 then (some (x1, u)) else (if z_in ((17 : Int32) + x2) 705 = true then (z_let (u 1 ((17 : Int32) + x2).toNatClampNeg) (fun z2 => if z_in ((17 : Int32) + x1) 705 = true then (z_let (u 1 ((17 : Int32) + x1).toNatClampNeg) (fun z3 => if z3 ≤ z2 then (f_X11_weakest_9 n x1 (x2 + (1 : Int32)) u) else (f_X11_weakest_9 n x2 (x2 + (1 : Int32)) u))) else none)) else none) := rfl
def f_X11_weakest  (u : zU) : Option (Int32 × zU) :=
  z_let (z_up u 0 0 (0 : Int32)) (fun u1 => f_X11_weakest_9 5000 (0 : Int32) (1 : Int32) u1)
set_option maxRecDepth 100000 in
set_option maxHeartbeats 4000000 in
theorem l_X11_weakest_9 {l : Launch} {D : zD} {A : Nat → Prop} {b : Nat} {p : Program} {e : Env} {s : State} {m : MethodId} {args : Array Value} {below : List Frame} {meth : Method} {c : Code} {v : Int32} {u' : zU} (C0 : z_C p c cX11_weakest s m args yX11_weakest.cls D A) (hr : meth.sig.returnType = (some .int)) (hml : c.maxLocals = 3) (hlk : meth.locks = false) : ∀ (n : Nat) (x1 : Int32) (x2 : Int32) (u : zU) (H : Heap) (locs : List Loc) (ls : Array Slot), f_X11_weakest_9 n x1 x2 u = some (v, u') → z_W D A b gM u H → va_S A s.heap H locs → lv_has ls 3 [(0, .ref (b + 0)), (1, .int x1), (2, .int x2)] → W p l e { frames := 0, cells := 0, slots := 0, locals := 0 } s m args below meth c H locs 0 0 (z_End D A b gM below args s (some (.int v)) u') (F0 m 9 ls []) := by
  have hx := C0.1
  have hb := C0.2.1
  intro n
  induction n with
  | zero => intro x1 x2 u H locs ls h hW hS hl; cases h
  | succ n ih =>
    intro x1 x2 u H locs ls h hW hS hl
    rw [f_X11_weakest_9_s] at h
    refine lv_iload_n hx hb dX11_weakest_9 rfl (lv_at hl 2 rfl) ?_
    refine lv_bipush (v := (8 : Int32)) hx hb dX11_weakest_10 (by decide) ?_
    refine lv_icmp_ge (tgt := 44) hx hb dX11_weakest_12 (by decide) (fun hc => ?_) (fun hc => ?_)
    · replace h := z_t h hc
      clear hc
      refine lv_iload_n hx hb dX11_weakest_44 rfl (lv_at hl 1 rfl) ?_
      cases h
      exact z_iret C0 hr hlk hW hS dX11_weakest_45
    · replace h := z_f h hc
      clear hc
      refine lv_aload_n hx hb dX11_weakest_15 rfl (lv_at hl 0 rfl) ?_
      refine z_getr (o := 1) C0 hW fl_X11_7 rfl rfl rfl dX11_weakest_16 ?_
      refine lv_bipush (v := (17 : Int32)) hx hb dX11_weakest_19 (by decide) ?_
      refine lv_iload_n hx hb dX11_weakest_21 rfl (lv_at hl 2 rfl) ?_
      refine lv_iadd hx hb dX11_weakest_22 ?_
      replace h := z_if h
      obtain ⟨hin, h⟩ := h
      refine z_iald (n := 705) C0 hW rfl rfl hin rfl dX11_weakest_23 ?_
      clear hin
      refine lv_topi (fun z2 e1 => ?_)
      replace h := z_ly h e1
      clear e1
      refine lv_aload_n hx hb dX11_weakest_24 rfl (lv_at hl 0 rfl) ?_
      refine z_getr (o := 1) C0 hW fl_X11_7 rfl rfl rfl dX11_weakest_25 ?_
      refine lv_bipush (v := (17 : Int32)) hx hb dX11_weakest_28 (by decide) ?_
      refine lv_iload_n hx hb dX11_weakest_30 rfl (lv_at hl 1 rfl) ?_
      refine lv_iadd hx hb dX11_weakest_31 ?_
      replace h := z_if h
      obtain ⟨hin, h⟩ := h
      refine z_iald (n := 705) C0 hW rfl rfl hin rfl dX11_weakest_32 ?_
      clear hin
      refine lv_topi (fun z3 e1 => ?_)
      replace h := z_ly h e1
      clear e1
      refine lv_icmp_ge (tgt := 38) hx hb dX11_weakest_33 (by decide) (fun hc => ?_) (fun hc => ?_)
      · replace h := z_t h hc
        clear hc
        refine lv_iinc (v := x2 + (1 : Int32)) (lv' := [(2, .int (x2 + (1 : Int32))), (0, .ref (b + 0)), (1, .int x1)]) hx hb dX11_weakest_38 hl (k := 2) rfl rfl (by decide) rfl (fun ls hl => ?_)
        refine lv_goto (tgt := 9) hx hb dX11_weakest_41 (by decide) ?_
        exact ih _ _ _ _ _ _ h hW hS (lv_sub hl [1, 2, 0] rfl)
      · replace h := z_f h hc
        clear hc
        refine lv_iload_n hx hb dX11_weakest_36 rfl (lv_at hl 2 rfl) ?_
        refine lv_istore_n (lv' := [(1, .int x2), (0, .ref (b + 0)), (2, .int x2)]) hx hb dX11_weakest_37 rfl hl (by decide) rfl (fun ls hl => ?_)
        refine lv_iinc (v := x2 + (1 : Int32)) (lv' := [(2, .int (x2 + (1 : Int32))), (1, .int x2), (0, .ref (b + 0))]) hx hb dX11_weakest_38 hl (k := 2) rfl rfl (by decide) rfl (fun ls hl => ?_)
        refine lv_goto (tgt := 9) hx hb dX11_weakest_41 (by decide) ?_
        exact ih _ _ _ _ _ _ h hW hS (lv_sub hl [2, 1, 0] rfl)
theorem f_X11_weakest_e  (u : zU) : f_X11_weakest u = z_let (z_up u 0 0 (0 : Int32)) (fun u1 => f_X11_weakest_9 5000 (0 : Int32) (1 : Int32) u1) := rfl
set_option maxRecDepth 100000 in
set_option maxHeartbeats 4000000 in
theorem c_X11_weakest (l : Launch) (D : zD) (A : Nat → Prop) (b : Nat)  (u : zU) {v : Int32} {u' : zU} (h : f_X11_weakest u = some (v, u')) : z_M l D A b gM yX11_weakest cX11_weakest 3 (some .int) 0 0 [.ref (b + 0)] u (some (.int v)) u' := by
  refine z_enter (by decide) (Nat.le_of_ble_eq_true rfl) ?_
  intro p e s m below meth c ls C0 hr hml hlk hW hS hl
  have hl : lv_has ls 3 [(0, .ref (b + 0))] := hl
  have hx := C0.1
  have hb := C0.2.1
  rw [f_X11_weakest_e] at h
  refine lv_aload_n hx hb dX11_weakest_0 rfl (lv_at hl 0 rfl) ?_
  refine lv_iconst (v := (0 : Int32)) hx hb dX11_weakest_1 (by decide) ?_
  refine z_puti C0 hW hS fl_X11_42 rfl rfl rfl rfl dX11_weakest_2 (fun H locs u1 e1 hW hS => ?_)
  replace h := z_ly h e1
  clear e1
  refine lv_iconst (v := (0 : Int32)) hx hb dX11_weakest_5 (by decide) ?_
  refine lv_istore_n (lv' := [(1, .int (0 : Int32)), (0, .ref (b + 0))]) hx hb dX11_weakest_6 rfl hl (by decide) rfl (fun ls hl => ?_)
  refine lv_iconst (v := (1 : Int32)) hx hb dX11_weakest_7 (by decide) ?_
  refine lv_istore_n (lv' := [(2, .int (1 : Int32)), (1, .int (0 : Int32)), (0, .ref (b + 0))]) hx hb dX11_weakest_8 rfl hl (by decide) rfl (fun ls hl => ?_)
  exact l_X11_weakest_9 C0 hr hml hlk 5000 _ _ _ _ _ _ h hW hS (lv_sub hl [2, 1, 0] rfl)
def f_X11_logged (a1 : Int32) (a2 : Int32) (u : zU) : Option (Int32) :=
  if z_in (((65 : Int32) + ((4 : Int32) * a1)) + a2) 705 = true then (z_let (u 1 (((65 : Int32) + ((4 : Int32) * a1)) + a2).toNatClampNeg) (fun z1 => some z1)) else none
theorem f_X11_logged_e (a1 : Int32) (a2 : Int32) (u : zU) : f_X11_logged a1 a2 u = if z_in (((65 : Int32) + ((4 : Int32) * a1)) + a2) 705 = true then (z_let (u 1 (((65 : Int32) + ((4 : Int32) * a1)) + a2).toNatClampNeg) (fun z1 => some z1)) else none := rfl
set_option maxRecDepth 100000 in
set_option maxHeartbeats 4000000 in
theorem c_X11_logged (l : Launch) (D : zD) (A : Nat → Prop) (b : Nat) (a1 : Int32) (a2 : Int32) (u : zU) {v : Int32} (h : f_X11_logged a1 a2 u = some v) : z_M l D A b gM yX11_logged cX11_logged 3 (some .int) 0 0 [.ref (b + 0), .int a1, .int a2] u (some (.int v)) u := by
  refine z_enter (by decide) (Nat.le_of_ble_eq_true rfl) ?_
  intro p e s m below meth c ls C0 hr hml hlk hW hS hl
  have hl : lv_has ls 3 [(0, .ref (b + 0)), (1, .int a1), (2, .int a2)] := hl
  have hx := C0.1
  have hb := C0.2.1
  rw [f_X11_logged_e] at h
  refine lv_aload_n hx hb dX11_logged_0 rfl (lv_at hl 0 rfl) ?_
  refine z_getr (o := 1) C0 hW fl_X11_7 rfl rfl rfl dX11_logged_1 ?_
  refine lv_bipush (v := (65 : Int32)) hx hb dX11_logged_4 (by decide) ?_
  refine lv_iconst (v := (4 : Int32)) hx hb dX11_logged_6 (by decide) ?_
  refine lv_iload_n hx hb dX11_logged_7 rfl (lv_at hl 1 rfl) ?_
  refine lv_imul hx hb dX11_logged_8 ?_
  refine lv_iadd hx hb dX11_logged_9 ?_
  refine lv_iload_n hx hb dX11_logged_10 rfl (lv_at hl 2 rfl) ?_
  refine lv_iadd hx hb dX11_logged_11 ?_
  replace h := z_if h
  obtain ⟨hin, h⟩ := h
  refine z_iald (n := 705) C0 hW rfl rfl hin rfl dX11_logged_12 ?_
  clear hin
  refine lv_topi (fun z1 e1 => ?_)
  replace h := z_ly h e1
  clear e1
  cases h
  exact z_iret C0 hr hlk hW hS dX11_logged_13
def f_X11_led_42 : Nat → Int32 → Bool → Int32 → Int32 → Int32 → zU → Option (Int32 × zU)
  | 0, _, _, _, _, _, _ => none
  | n + 1, x1, x2, x3, x4, x5, u =>
    if x5 < 0 then (if x2 = true then (some (x4, u)) else (some (x3, u))) else ((f_X11_logged x5 (2 : Int32) u).bind (fun r4 => if r4 = x1 then ((f_X11_logged x5 (0 : Int32) u).bind (fun r5 => f_X11_led_42 n x1 x2 (x3 + (1 : Int32)) r5 (x5 + (-1 : Int32)) u)) else (f_X11_led_42 n x1 x2 x3 x4 (x5 + (-1 : Int32)) u)))
theorem f_X11_led_42_s (n : Nat) (x1 : Int32) (x2 : Bool) (x3 : Int32) (x4 : Int32) (x5 : Int32) (u : zU) : f_X11_led_42 (n + 1) x1 x2 x3 x4 x5 u = if x5 < 0 then (if x2 = true then (some (x4, u)) else (some (x3, u))) else ((f_X11_logged x5 (2 : Int32) u).bind (fun r4 => if r4 = x1 then ((f_X11_logged x5 (0 : Int32) u).bind (fun r5 => f_X11_led_42 n x1 x2 (x3 + (1 : Int32)) r5 (x5 + (-1 : Int32)) u)) else (f_X11_led_42 n x1 x2 x3 x4 (x5 + (-1 : Int32)) u))) := rfl
def f_X11_led (a1 : Int32) (a2 : Bool) (u : zU) : Option (Int32 × zU) :=
  z_let (f_X11_isRider a1 u) (fun t1 => if t1 = true then (z_let (z_up u 0 0 (0 : Int32)) (fun u2 => if (u2 0 0) ≤ 0 then (z_let ((u2 1 11) - (1 : Int32)) (fun z3 => f_X11_led_42 5000 a1 a2 (0 : Int32) (-1 : Int32) z3 u2)) else (some ((0 : Int32), u2)))) else (z_let (z_up u 0 0 (1 : Int32)) (fun u6 => if (u6 0 0) ≤ 0 then (z_let ((u6 1 11) - (1 : Int32)) (fun z7 => f_X11_led_42 5000 a1 a2 (0 : Int32) (-1 : Int32) z7 u6)) else (some ((0 : Int32), u6)))))
set_option maxRecDepth 100000 in
set_option maxHeartbeats 4000000 in
theorem l_X11_led_42 {l : Launch} {D : zD} {A : Nat → Prop} {b : Nat} {p : Program} {e : Env} {s : State} {m : MethodId} {args : Array Value} {below : List Frame} {meth : Method} {c : Code} {v : Int32} {u' : zU} (C0 : z_C p c cX11_led s m args yX11_led.cls D A) (hr : meth.sig.returnType = (some .int)) (hml : c.maxLocals = 6) (hlk : meth.locks = false) : ∀ (n : Nat) (x1 : Int32) (x2 : Bool) (x3 : Int32) (x4 : Int32) (x5 : Int32) (u : zU) (H : Heap) (locs : List Loc) (ls : Array Slot), f_X11_led_42 n x1 x2 x3 x4 x5 u = some (v, u') → z_W D A b gM u H → va_S A s.heap H locs → lv_has ls 6 [(0, .ref (b + 0)), (1, .int x1), (2, .int (bI x2)), (3, .int x3), (4, .int x4), (5, .int x5)] → W p l e { frames := 2, cells := 0, slots := 0, locals := 43 } s m args below meth c H locs 0 0 (z_End D A b gM below args s (some (.int v)) u') (F0 m 42 ls []) := by
  have hx := C0.1
  have hb := C0.2.1
  intro n
  induction n with
  | zero => intro x1 x2 x3 x4 x5 u H locs ls h hW hS hl; cases h
  | succ n ih =>
    intro x1 x2 x3 x4 x5 u H locs ls h hW hS hl
    rw [f_X11_led_42_s] at h
    refine lv_iload hx hb dX11_led_42 (lv_at hl 5 rfl) ?_
    refine lv_if_lt (tgt := 79) hx hb dX11_led_44 (by decide) (fun hc => ?_) (fun hc => ?_)
    · replace h := z_t h hc
      clear hc
      refine lv_iload_n hx hb dX11_led_79 rfl (lv_at hl 2 rfl) ?_
      refine z_ifeqZ C0 (tgt := 88) dX11_led_80 (by decide) (fun hc => ?_) (fun hc => ?_)
      · replace h := z_ff h hc
        clear hc
        refine lv_iload_n hx hb dX11_led_88 rfl (lv_at hl 3 rfl) ?_
        cases h
        exact z_iret C0 hr hlk hW hS dX11_led_89
      · replace h := z_t h hc
        clear hc
        refine lv_iload hx hb dX11_led_83 (lv_at hl 4 rfl) ?_
        refine lv_goto (tgt := 89) hx hb dX11_led_85 (by decide) ?_
        cases h
        exact z_iret C0 hr hlk hW hS dX11_led_89
    · replace h := z_f h hc
      clear hc
      refine lv_aload_n hx hb dX11_led_47 rfl (lv_at hl 0 rfl) ?_
      refine lv_iload hx hb dX11_led_48 (lv_at hl 5 rfl) ?_
      refine lv_iconst (v := (2 : Int32)) hx hb dX11_led_50 (by decide) ?_
      replace h := z_bd h
      obtain ⟨r4, hq, h⟩ := h
      refine z_cvi (As := [.int x5, .int (2 : Int32)]) C0 hml hl.1 hW hS (c_X11_logged l D A b x5 (2 : Int32) u hq) mv_X11_357 rfl ⟨Nat.le_of_ble_eq_true rfl, Nat.le_of_ble_eq_true rfl⟩ rfl rfl (Nat.le_of_ble_eq_true rfl) dX11_led_51 (fun H locs hW hS => ?_)
      clear hq
      refine lv_iload_n hx hb dX11_led_54 rfl (lv_at hl 1 rfl) ?_
      refine lv_icmp_eq (tgt := 61) hx hb dX11_led_55 (by decide) (fun hc => ?_) (fun hc => ?_)
      · replace h := z_t h hc
        clear hc
        refine lv_iinc (v := x3 + (1 : Int32)) (lv' := [(3, .int (x3 + (1 : Int32))), (0, .ref (b + 0)), (1, .int x1), (2, .int (bI x2)), (4, .int x4), (5, .int x5)]) hx hb dX11_led_61 hl (k := 3) rfl rfl (by decide) rfl (fun ls hl => ?_)
        refine lv_aload_n hx hb dX11_led_64 rfl (lv_at hl 1 rfl) ?_
        refine lv_iload hx hb dX11_led_65 (lv_at hl 5 rfl) ?_
        refine lv_iconst (v := (0 : Int32)) hx hb dX11_led_67 (by decide) ?_
        replace h := z_bd h
        obtain ⟨r5, hq, h⟩ := h
        refine z_cvi (As := [.int x5, .int (0 : Int32)]) C0 hml hl.1 hW hS (c_X11_logged l D A b x5 (0 : Int32) u hq) mv_X11_357 rfl ⟨Nat.le_of_ble_eq_true rfl, Nat.le_of_ble_eq_true rfl⟩ rfl rfl (Nat.le_of_ble_eq_true rfl) dX11_led_68 (fun H locs hW hS => ?_)
        clear hq
        refine lv_istore (lv' := [(4, .int r5), (3, .int (x3 + (1 : Int32))), (0, .ref (b + 0)), (1, .int x1), (2, .int (bI x2)), (5, .int x5)]) hx hb dX11_led_71 hl (by decide) rfl (fun ls hl => ?_)
        refine lv_iinc (v := x5 + (-1 : Int32)) (lv' := [(5, .int (x5 + (-1 : Int32))), (4, .int r5), (3, .int (x3 + (1 : Int32))), (0, .ref (b + 0)), (1, .int x1), (2, .int (bI x2))]) hx hb dX11_led_73 hl (k := 5) rfl rfl (by decide) rfl (fun ls hl => ?_)
        refine lv_goto (tgt := 42) hx hb dX11_led_76 (by decide) ?_
        exact ih _ _ _ _ _ _ _ _ _ h hW hS (lv_sub hl [3, 4, 5, 2, 1, 0] rfl)
      · replace h := z_f h hc
        clear hc
        refine lv_goto (tgt := 73) hx hb dX11_led_58 (by decide) ?_
        refine lv_iinc (v := x5 + (-1 : Int32)) (lv' := [(5, .int (x5 + (-1 : Int32))), (0, .ref (b + 0)), (1, .int x1), (2, .int (bI x2)), (3, .int x3), (4, .int x4)]) hx hb dX11_led_73 hl (k := 5) rfl rfl (by decide) rfl (fun ls hl => ?_)
        refine lv_goto (tgt := 42) hx hb dX11_led_76 (by decide) ?_
        exact ih _ _ _ _ _ _ _ _ _ h hW hS (lv_sub hl [1, 2, 3, 4, 5, 0] rfl)
theorem f_X11_led_e (a1 : Int32) (a2 : Bool) (u : zU) : f_X11_led a1 a2 u = z_let (f_X11_isRider a1 u) (fun t1 => if t1 = true then (z_let (z_up u 0 0 (0 : Int32)) (fun u2 => if (u2 0 0) ≤ 0 then (z_let ((u2 1 11) - (1 : Int32)) (fun z3 => f_X11_led_42 5000 a1 a2 (0 : Int32) (-1 : Int32) z3 u2)) else (some ((0 : Int32), u2)))) else (z_let (z_up u 0 0 (1 : Int32)) (fun u6 => if (u6 0 0) ≤ 0 then (z_let ((u6 1 11) - (1 : Int32)) (fun z7 => f_X11_led_42 5000 a1 a2 (0 : Int32) (-1 : Int32) z7 u6)) else (some ((0 : Int32), u6))))) := rfl
set_option maxRecDepth 100000 in
set_option maxHeartbeats 4000000 in
theorem c_X11_led (l : Launch) (D : zD) (A : Nat → Prop) (b : Nat) (a1 : Int32) (a2 : Bool) (u : zU) {v : Int32} {u' : zU} (h : f_X11_led a1 a2 u = some (v, u')) : z_M l D A b gM yX11_led cX11_led 6 (some .int) 2 43 [.ref (b + 0), .int a1, .int (bI a2)] u (some (.int v)) u' := by
  refine z_enter (by decide) (Nat.le_of_ble_eq_true rfl) ?_
  intro p e s m below meth c ls C0 hr hml hlk hW hS hl
  have hl : lv_has ls 6 [(0, .ref (b + 0)), (1, .int a1), (2, .int (bI a2))] := hl
  have hx := C0.1
  have hb := C0.2.1
  rw [f_X11_led_e] at h
  refine lv_aload_n hx hb dX11_led_0 rfl (lv_at hl 0 rfl) ?_
  refine lv_aload_n hx hb dX11_led_1 rfl (lv_at hl 0 rfl) ?_
  refine lv_iload_n hx hb dX11_led_2 rfl (lv_at hl 1 rfl) ?_
  obtain ⟨t1, hq⟩ : ∃ y, f_X11_isRider a1 u = y := ⟨_, rfl⟩
  replace h := z_lz h hq
  refine z_cvi (As := [.int a1]) C0 hml hl.1 hW hS (c_X11_isRider l D A b a1 u hq) mv_X11_291 rfl ⟨Nat.le_of_ble_eq_true rfl, Nat.le_of_ble_eq_true rfl⟩ rfl rfl (Nat.le_of_ble_eq_true rfl) dX11_led_3 (fun H locs hW hS => ?_)
  clear hq
  refine z_ifneZ C0 (tgt := 13) dX11_led_6 (by decide) (fun hc => ?_) (fun hc => ?_)
  · replace h := z_t h hc
    clear hc
    refine lv_iconst (v := (0 : Int32)) hx hb dX11_led_13 (by decide) ?_
    refine z_puti C0 hW hS fl_X11_42 rfl rfl rfl rfl dX11_led_14 (fun H locs u2 e1 hW hS => ?_)
    replace h := z_ly h e1
    clear e1
    refine lv_aload_n hx hb dX11_led_17 rfl (lv_at hl 0 rfl) ?_
    refine z_geti C0 hW fl_X11_42 rfl rfl dX11_led_18 ?_
    refine lv_if_le (tgt := 26) hx hb dX11_led_21 (by decide) (fun hc => ?_) (fun hc => ?_)
    · replace h := z_t h hc
      clear hc
      refine lv_iconst (v := (0 : Int32)) hx hb dX11_led_26 (by decide) ?_
      refine lv_istore_n (lv' := [(3, .int (0 : Int32)), (0, .ref (b + 0)), (1, .int a1), (2, .int (bI a2))]) hx hb dX11_led_27 rfl hl (by decide) rfl (fun ls hl => ?_)
      refine lv_iconst (v := (-1 : Int32)) hx hb dX11_led_28 (by decide) ?_
      refine lv_istore (lv' := [(4, .int (-1 : Int32)), (3, .int (0 : Int32)), (0, .ref (b + 0)), (1, .int a1), (2, .int (bI a2))]) hx hb dX11_led_29 hl (by decide) rfl (fun ls hl => ?_)
      refine lv_aload_n hx hb dX11_led_31 rfl (lv_at hl 2 rfl) ?_
      refine z_getr (o := 1) C0 hW fl_X11_7 rfl rfl rfl dX11_led_32 ?_
      refine lv_bipush (v := (11 : Int32)) hx hb dX11_led_35 (by decide) ?_
      refine z_iald (k := 11) (n := 705) C0 hW rfl rfl (by decide) (by decide) dX11_led_37 ?_
      refine lv_iconst (v := (1 : Int32)) hx hb dX11_led_38 (by decide) ?_
      refine lv_isub hx hb dX11_led_39 ?_
      refine lv_topi (fun z3 e1 => ?_)
      replace h := z_ly h e1
      clear e1
      refine lv_istore (lv' := [(5, .int z3), (4, .int (-1 : Int32)), (3, .int (0 : Int32)), (0, .ref (b + 0)), (1, .int a1), (2, .int (bI a2))]) hx hb dX11_led_40 hl (by decide) rfl (fun ls hl => ?_)
      exact l_X11_led_42 C0 hr hml hlk 5000 _ _ _ _ _ _ _ _ _ h hW hS (lv_sub hl [3, 4, 5, 2, 1, 0] rfl)
    · replace h := z_f h hc
      clear hc
      refine lv_iconst (v := (0 : Int32)) hx hb dX11_led_24 (by decide) ?_
      cases h
      exact z_iret C0 hr hlk hW hS dX11_led_25
  · replace h := z_ff h hc
    clear hc
    refine lv_iconst (v := (1 : Int32)) hx hb dX11_led_9 (by decide) ?_
    refine lv_goto (tgt := 14) hx hb dX11_led_10 (by decide) ?_
    refine z_puti C0 hW hS fl_X11_42 rfl rfl rfl rfl dX11_led_14 (fun H locs u6 e1 hW hS => ?_)
    replace h := z_ly h e1
    clear e1
    refine lv_aload_n hx hb dX11_led_17 rfl (lv_at hl 0 rfl) ?_
    refine z_geti C0 hW fl_X11_42 rfl rfl dX11_led_18 ?_
    refine lv_if_le (tgt := 26) hx hb dX11_led_21 (by decide) (fun hc => ?_) (fun hc => ?_)
    · replace h := z_t h hc
      clear hc
      refine lv_iconst (v := (0 : Int32)) hx hb dX11_led_26 (by decide) ?_
      refine lv_istore_n (lv' := [(3, .int (0 : Int32)), (0, .ref (b + 0)), (1, .int a1), (2, .int (bI a2))]) hx hb dX11_led_27 rfl hl (by decide) rfl (fun ls hl => ?_)
      refine lv_iconst (v := (-1 : Int32)) hx hb dX11_led_28 (by decide) ?_
      refine lv_istore (lv' := [(4, .int (-1 : Int32)), (3, .int (0 : Int32)), (0, .ref (b + 0)), (1, .int a1), (2, .int (bI a2))]) hx hb dX11_led_29 hl (by decide) rfl (fun ls hl => ?_)
      refine lv_aload_n hx hb dX11_led_31 rfl (lv_at hl 2 rfl) ?_
      refine z_getr (o := 1) C0 hW fl_X11_7 rfl rfl rfl dX11_led_32 ?_
      refine lv_bipush (v := (11 : Int32)) hx hb dX11_led_35 (by decide) ?_
      refine z_iald (k := 11) (n := 705) C0 hW rfl rfl (by decide) (by decide) dX11_led_37 ?_
      refine lv_iconst (v := (1 : Int32)) hx hb dX11_led_38 (by decide) ?_
      refine lv_isub hx hb dX11_led_39 ?_
      refine lv_topi (fun z7 e1 => ?_)
      replace h := z_ly h e1
      clear e1
      refine lv_istore (lv' := [(5, .int z7), (4, .int (-1 : Int32)), (3, .int (0 : Int32)), (0, .ref (b + 0)), (1, .int a1), (2, .int (bI a2))]) hx hb dX11_led_40 hl (by decide) rfl (fun ls hl => ?_)
      exact l_X11_led_42 C0 hr hml hlk 5000 _ _ _ _ _ _ _ _ _ h hW hS (lv_sub hl [3, 4, 5, 2, 1, 0] rfl)
    · replace h := z_f h hc
      clear hc
      refine lv_iconst (v := (0 : Int32)) hx hb dX11_led_24 (by decide) ?_
      cases h
      exact z_iret C0 hr hlk hW hS dX11_led_25
def f_X11_log (a1 : Int32) (a2 : Int32) (u : zU) : Option (Int32 × zU) :=
  z_let (f_X11_isIn a2 (0 : Int32) (3 : Int32) u) (fun t1 => if t1 = true then (z_let (z_up u 0 0 (0 : Int32)) (fun u2 => if (u2 0 0) ≤ 0 then (z_let (f_X11_isIn a1 (0 : Int32) ((u2 1 11) - (1 : Int32)) u2) (fun t3 => if t3 = true then ((f_X11_logged a1 a2 u2).bind (fun r4 => some (r4, u2))) else (some ((-2 : Int32), u2)))) else (some ((0 : Int32), u2)))) else (z_let (z_up u 0 0 (1 : Int32)) (fun u5 => if (u5 0 0) ≤ 0 then (z_let (f_X11_isIn a1 (0 : Int32) ((u5 1 11) - (1 : Int32)) u5) (fun t6 => if t6 = true then ((f_X11_logged a1 a2 u5).bind (fun r7 => some (r7, u5))) else (some ((-2 : Int32), u5)))) else (some ((0 : Int32), u5)))))
theorem f_X11_log_e (a1 : Int32) (a2 : Int32) (u : zU) : f_X11_log a1 a2 u = z_let (f_X11_isIn a2 (0 : Int32) (3 : Int32) u) (fun t1 => if t1 = true then (z_let (z_up u 0 0 (0 : Int32)) (fun u2 => if (u2 0 0) ≤ 0 then (z_let (f_X11_isIn a1 (0 : Int32) ((u2 1 11) - (1 : Int32)) u2) (fun t3 => if t3 = true then ((f_X11_logged a1 a2 u2).bind (fun r4 => some (r4, u2))) else (some ((-2 : Int32), u2)))) else (some ((0 : Int32), u2)))) else (z_let (z_up u 0 0 (1 : Int32)) (fun u5 => if (u5 0 0) ≤ 0 then (z_let (f_X11_isIn a1 (0 : Int32) ((u5 1 11) - (1 : Int32)) u5) (fun t6 => if t6 = true then ((f_X11_logged a1 a2 u5).bind (fun r7 => some (r7, u5))) else (some ((-2 : Int32), u5)))) else (some ((0 : Int32), u5))))) := rfl
set_option maxRecDepth 100000 in
set_option maxHeartbeats 4000000 in
theorem c_X11_log (l : Launch) (D : zD) (A : Nat → Prop) (b : Nat) (a1 : Int32) (a2 : Int32) (u : zU) {v : Int32} {u' : zU} (h : f_X11_log a1 a2 u = some (v, u')) : z_M l D A b gM yX11_log cX11_log 3 (some .int) 1 22 [.ref (b + 0), .int a1, .int a2] u (some (.int v)) u' := by
  refine z_enter (by decide) (Nat.le_of_ble_eq_true rfl) ?_
  intro p e s m below meth c ls C0 hr hml hlk hW hS hl
  have hl : lv_has ls 3 [(0, .ref (b + 0)), (1, .int a1), (2, .int a2)] := hl
  have hx := C0.1
  have hb := C0.2.1
  rw [f_X11_log_e] at h
  refine lv_aload_n hx hb dX11_log_0 rfl (lv_at hl 0 rfl) ?_
  refine lv_iload_n hx hb dX11_log_1 rfl (lv_at hl 2 rfl) ?_
  refine lv_iconst (v := (0 : Int32)) hx hb dX11_log_2 (by decide) ?_
  refine lv_iconst (v := (3 : Int32)) hx hb dX11_log_3 (by decide) ?_
  obtain ⟨t1, hq⟩ : ∃ y, f_X11_isIn a2 (0 : Int32) (3 : Int32) u = y := ⟨_, rfl⟩
  replace h := z_lz h hq
  refine z_csi (As := [.int a2, .int (0 : Int32), .int (3 : Int32)]) C0 hml hl.1 hW hS (c_X11_isIn l D A b a2 (0 : Int32) (3 : Int32) u hq) ms_X11_45 ⟨Nat.le_of_ble_eq_true rfl, Nat.le_of_ble_eq_true rfl⟩ rfl rfl (Nat.le_of_ble_eq_true rfl) dX11_log_4 (fun H locs hW hS => ?_)
  clear hq
  refine z_ifneZ C0 (tgt := 14) dX11_log_7 (by decide) (fun hc => ?_) (fun hc => ?_)
  · replace h := z_t h hc
    clear hc
    refine lv_iconst (v := (0 : Int32)) hx hb dX11_log_14 (by decide) ?_
    refine z_puti C0 hW hS fl_X11_42 rfl rfl rfl rfl dX11_log_15 (fun H locs u2 e1 hW hS => ?_)
    replace h := z_ly h e1
    clear e1
    refine lv_aload_n hx hb dX11_log_18 rfl (lv_at hl 0 rfl) ?_
    refine z_geti C0 hW fl_X11_42 rfl rfl dX11_log_19 ?_
    refine lv_if_le (tgt := 27) hx hb dX11_log_22 (by decide) (fun hc => ?_) (fun hc => ?_)
    · replace h := z_t h hc
      clear hc
      refine lv_iload_n hx hb dX11_log_27 rfl (lv_at hl 1 rfl) ?_
      refine lv_iconst (v := (0 : Int32)) hx hb dX11_log_28 (by decide) ?_
      refine lv_aload_n hx hb dX11_log_29 rfl (lv_at hl 0 rfl) ?_
      refine z_getr (o := 1) C0 hW fl_X11_7 rfl rfl rfl dX11_log_30 ?_
      refine lv_bipush (v := (11 : Int32)) hx hb dX11_log_33 (by decide) ?_
      refine z_iald (k := 11) (n := 705) C0 hW rfl rfl (by decide) (by decide) dX11_log_35 ?_
      refine lv_iconst (v := (1 : Int32)) hx hb dX11_log_36 (by decide) ?_
      refine lv_isub hx hb dX11_log_37 ?_
      obtain ⟨t3, hq⟩ : ∃ y, f_X11_isIn a1 (0 : Int32) ((u2 1 11) - (1 : Int32)) u2 = y := ⟨_, rfl⟩
      replace h := z_lz h hq
      refine z_csi (As := [.int a1, .int (0 : Int32), .int ((u2 1 11) - (1 : Int32))]) C0 hml hl.1 hW hS (c_X11_isIn l D A b a1 (0 : Int32) ((u2 1 11) - (1 : Int32)) u2 hq) ms_X11_45 ⟨Nat.le_of_ble_eq_true rfl, Nat.le_of_ble_eq_true rfl⟩ rfl rfl (Nat.le_of_ble_eq_true rfl) dX11_log_38 (fun H locs hW hS => ?_)
      clear hq
      refine z_ifeqZ C0 (tgt := 53) dX11_log_41 (by decide) (fun hc => ?_) (fun hc => ?_)
      · replace h := z_ff h hc
        clear hc
        refine lv_bipush (v := (-2 : Int32)) hx hb dX11_log_53 (by decide) ?_
        cases h
        exact z_iret C0 hr hlk hW hS dX11_log_55
      · replace h := z_t h hc
        clear hc
        refine lv_aload_n hx hb dX11_log_44 rfl (lv_at hl 0 rfl) ?_
        refine lv_iload_n hx hb dX11_log_45 rfl (lv_at hl 1 rfl) ?_
        refine lv_iload_n hx hb dX11_log_46 rfl (lv_at hl 2 rfl) ?_
        replace h := z_bd h
        obtain ⟨r4, hq, h⟩ := h
        refine z_cvi (As := [.int a1, .int a2]) C0 hml hl.1 hW hS (c_X11_logged l D A b a1 a2 u2 hq) mv_X11_357 rfl ⟨Nat.le_of_ble_eq_true rfl, Nat.le_of_ble_eq_true rfl⟩ rfl rfl (Nat.le_of_ble_eq_true rfl) dX11_log_47 (fun H locs hW hS => ?_)
        clear hq
        refine lv_goto (tgt := 55) hx hb dX11_log_50 (by decide) ?_
        cases h
        exact z_iret C0 hr hlk hW hS dX11_log_55
    · replace h := z_f h hc
      clear hc
      refine lv_iconst (v := (0 : Int32)) hx hb dX11_log_25 (by decide) ?_
      cases h
      exact z_iret C0 hr hlk hW hS dX11_log_26
  · replace h := z_ff h hc
    clear hc
    refine lv_iconst (v := (1 : Int32)) hx hb dX11_log_10 (by decide) ?_
    refine lv_goto (tgt := 15) hx hb dX11_log_11 (by decide) ?_
    refine z_puti C0 hW hS fl_X11_42 rfl rfl rfl rfl dX11_log_15 (fun H locs u5 e1 hW hS => ?_)
    replace h := z_ly h e1
    clear e1
    refine lv_aload_n hx hb dX11_log_18 rfl (lv_at hl 0 rfl) ?_
    refine z_geti C0 hW fl_X11_42 rfl rfl dX11_log_19 ?_
    refine lv_if_le (tgt := 27) hx hb dX11_log_22 (by decide) (fun hc => ?_) (fun hc => ?_)
    · replace h := z_t h hc
      clear hc
      refine lv_iload_n hx hb dX11_log_27 rfl (lv_at hl 1 rfl) ?_
      refine lv_iconst (v := (0 : Int32)) hx hb dX11_log_28 (by decide) ?_
      refine lv_aload_n hx hb dX11_log_29 rfl (lv_at hl 0 rfl) ?_
      refine z_getr (o := 1) C0 hW fl_X11_7 rfl rfl rfl dX11_log_30 ?_
      refine lv_bipush (v := (11 : Int32)) hx hb dX11_log_33 (by decide) ?_
      refine z_iald (k := 11) (n := 705) C0 hW rfl rfl (by decide) (by decide) dX11_log_35 ?_
      refine lv_iconst (v := (1 : Int32)) hx hb dX11_log_36 (by decide) ?_
      refine lv_isub hx hb dX11_log_37 ?_
      obtain ⟨t6, hq⟩ : ∃ y, f_X11_isIn a1 (0 : Int32) ((u5 1 11) - (1 : Int32)) u5 = y := ⟨_, rfl⟩
      replace h := z_lz h hq
      refine z_csi (As := [.int a1, .int (0 : Int32), .int ((u5 1 11) - (1 : Int32))]) C0 hml hl.1 hW hS (c_X11_isIn l D A b a1 (0 : Int32) ((u5 1 11) - (1 : Int32)) u5 hq) ms_X11_45 ⟨Nat.le_of_ble_eq_true rfl, Nat.le_of_ble_eq_true rfl⟩ rfl rfl (Nat.le_of_ble_eq_true rfl) dX11_log_38 (fun H locs hW hS => ?_)
      clear hq
      refine z_ifeqZ C0 (tgt := 53) dX11_log_41 (by decide) (fun hc => ?_) (fun hc => ?_)
      · replace h := z_ff h hc
        clear hc
        refine lv_bipush (v := (-2 : Int32)) hx hb dX11_log_53 (by decide) ?_
        cases h
        exact z_iret C0 hr hlk hW hS dX11_log_55
      · replace h := z_t h hc
        clear hc
        refine lv_aload_n hx hb dX11_log_44 rfl (lv_at hl 0 rfl) ?_
        refine lv_iload_n hx hb dX11_log_45 rfl (lv_at hl 1 rfl) ?_
        refine lv_iload_n hx hb dX11_log_46 rfl (lv_at hl 2 rfl) ?_
        replace h := z_bd h
        obtain ⟨r7, hq, h⟩ := h
        refine z_cvi (As := [.int a1, .int a2]) C0 hml hl.1 hW hS (c_X11_logged l D A b a1 a2 u5 hq) mv_X11_357 rfl ⟨Nat.le_of_ble_eq_true rfl, Nat.le_of_ble_eq_true rfl⟩ rfl rfl (Nat.le_of_ble_eq_true rfl) dX11_log_47 (fun H locs hW hS => ?_)
        clear hq
        refine lv_goto (tgt := 55) hx hb dX11_log_50 (by decide) ?_
        cases h
        exact z_iret C0 hr hlk hW hS dX11_log_55
    · replace h := z_f h hc
      clear hc
      refine lv_iconst (v := (0 : Int32)) hx hb dX11_log_25 (by decide) ?_
      cases h
      exact z_iret C0 hr hlk hW hS dX11_log_26
