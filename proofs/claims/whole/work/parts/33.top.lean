def f_X9_copy (w : Nat) (L : Nat → Nat) (w2 : Nat) (L2 : Nat → Nat)  (u : zU) : zU :=
  z_let (z_cp u (w2 + 1) (w + 1) 8) (fun u1 => z_let (z_cp u1 (w2 + 2) (w + 2) 8) (fun u2 => z_let (z_cp u2 (w2 + 3) (w + 3) 8) (fun u3 => z_let (z_cp u3 (w2 + 4) (w + 4) 8) (fun u4 => z_let (z_cp u4 (w2 + 5) (w + 5) 8) (fun u5 => z_let (z_cp u5 (w2 + 6) (w + 6) 8) (fun u6 => z_let (z_cp u6 (w2 + 7) (w + 7) 4) (fun u7 => z_let (z_up u7 w 8 (u7 w2 8)) (fun u8 => z_let (z_up u8 w 9 (u8 w2 9)) (fun u9 => z_let (z_up u9 w 10 (u9 w2 10)) (fun u10 => z_let (z_up u10 w 11 (u10 w2 11)) (fun u11 => z_let (z_up u11 w 12 (u11 w2 12)) (fun u12 => z_let (z_up u12 w 13 (u12 w2 13)) (fun u13 => z_let (z_up u13 w 14 (u13 w2 14)) (fun u14 => z_let (z_up u14 w 15 (u14 w2 15)) (fun u15 => z_let (z_up u15 w 16 (u15 w2 16)) (fun u16 => z_let (z_up u16 w 17 (u16 w2 17)) (fun u17 => z_let (z_up u17 w 18 (u17 w2 18)) (fun u18 => u18))))))))))))))))))
theorem f_X9_copy_e (w : Nat) (L : Nat → Nat) (w2 : Nat) (L2 : Nat → Nat)  (u : zU) : f_X9_copy w L w2 L2 u = z_let (z_cp u (w2 + 1) (w + 1) 8) (fun u1 => z_let (z_cp u1 (w2 + 2) (w + 2) 8) (fun u2 => z_let (z_cp u2 (w2 + 3) (w + 3) 8) (fun u3 => z_let (z_cp u3 (w2 + 4) (w + 4) 8) (fun u4 => z_let (z_cp u4 (w2 + 5) (w + 5) 8) (fun u5 => z_let (z_cp u5 (w2 + 6) (w + 6) 8) (fun u6 => z_let (z_cp u6 (w2 + 7) (w + 7) 4) (fun u7 => z_let (z_up u7 w 8 (u7 w2 8)) (fun u8 => z_let (z_up u8 w 9 (u8 w2 9)) (fun u9 => z_let (z_up u9 w 10 (u9 w2 10)) (fun u10 => z_let (z_up u10 w 11 (u10 w2 11)) (fun u11 => z_let (z_up u11 w 12 (u11 w2 12)) (fun u12 => z_let (z_up u12 w 13 (u12 w2 13)) (fun u13 => z_let (z_up u13 w 14 (u13 w2 14)) (fun u14 => z_let (z_up u14 w 15 (u14 w2 15)) (fun u15 => z_let (z_up u15 w 16 (u15 w2 16)) (fun u16 => z_let (z_up u16 w 17 (u16 w2 17)) (fun u17 => z_let (z_up u17 w 18 (u17 w2 18)) (fun u18 => u18)))))))))))))))))) := rfl
set_option maxRecDepth 100000 in
set_option maxHeartbeats 4000000 in
theorem c_X9_copy (l : Launch) (D : zD) (A : Nat → Prop) (b : Nat) (g : zG) (w : Nat) (L : Nat → Nat) (w2 : Nat) (L2 : Nat → Nat) (hw : zWh g w L) (hw2 : zWh g w2 L2)  (u : zU) {u' : zU} (h : f_X9_copy w L w2 L2 u = u') : z_M2 l D A b g yX9_copy cX9_copy 2 none 1 40 [.ref (b + w), .ref (b + w2)] u none (zgs g w 19 (L2 0)) u' := by
  refine z_enter2 (by decide) (Nat.le_of_ble_eq_true rfl) ?_
  intro p e s m below meth c ls C0 hr hml hlk hW hS hl
  have hl : lv_has ls 2 [(0, .ref (b + w)), (1, .ref (b + w2))] := hl
  have hx := C0.1
  have hb := C0.2.1
  rw [f_X9_copy_e] at h
  refine lv_aload_n hx hb dX9_copy_0 rfl (lv_at hl 1 rfl) ?_
  refine z_getr (o := w2 + 1) C0 hW fl_X9_9 hw2.1 rfl (hw2.2.1 0 (by decide)).1 dX9_copy_1 ?_
  refine lv_iconst (v := (0 : Int32)) hx hb dX9_copy_4 (by decide) ?_
  refine lv_aload_n hx hb dX9_copy_5 rfl (lv_at hl 0 rfl) ?_
  refine z_getr (o := w + 1) C0 hW fl_X9_9 hw.1 rfl (hw.2.1 0 (by decide)).1 dX9_copy_6 ?_
  refine lv_iconst (v := (0 : Int32)) hx hb dX9_copy_9 (by decide) ?_
  refine lv_bipush (v := (8 : Int32)) hx hb dX9_copy_10 (by decide) ?_
  refine z_copyi (n := 8) C0 hml hl.1 hW hS (hw2.2.1 0 (by decide)).2.1 (hw2.2.1 0 (by decide)).2.2 (hw.2.1 0 (by decide)).2.1 (hw.2.1 0 (by decide)).2.2 ⟨by decide, by decide⟩ ⟨by decide, by decide⟩ w_ac_X9_77 (Nat.le_of_ble_eq_true rfl) (Nat.le_of_ble_eq_true rfl) dX9_copy_12 (fun H locs u1 e1 hW hS => ?_)
  replace h := z_ly h e1
  clear e1
  refine lv_aload_n hx hb dX9_copy_15 rfl (lv_at hl 1 rfl) ?_
  refine z_getr (o := w2 + 2) C0 hW fl_X9_15 hw2.1 rfl (hw2.2.1 1 (by decide)).1 dX9_copy_16 ?_
  refine lv_iconst (v := (0 : Int32)) hx hb dX9_copy_19 (by decide) ?_
  refine lv_aload_n hx hb dX9_copy_20 rfl (lv_at hl 0 rfl) ?_
  refine z_getr (o := w + 2) C0 hW fl_X9_15 hw.1 rfl (hw.2.1 1 (by decide)).1 dX9_copy_21 ?_
  refine lv_iconst (v := (0 : Int32)) hx hb dX9_copy_24 (by decide) ?_
  refine lv_bipush (v := (8 : Int32)) hx hb dX9_copy_25 (by decide) ?_
  refine z_copyi (n := 8) C0 hml hl.1 hW hS (hw2.2.1 1 (by decide)).2.1 (hw2.2.1 1 (by decide)).2.2 (hw.2.1 1 (by decide)).2.1 (hw.2.1 1 (by decide)).2.2 ⟨by decide, by decide⟩ ⟨by decide, by decide⟩ w_ac_X9_77 (Nat.le_of_ble_eq_true rfl) (Nat.le_of_ble_eq_true rfl) dX9_copy_27 (fun H locs u2 e1 hW hS => ?_)
  replace h := z_ly h e1
  clear e1
  refine lv_aload_n hx hb dX9_copy_30 rfl (lv_at hl 1 rfl) ?_
  refine z_getr (o := w2 + 3) C0 hW fl_X9_18 hw2.1 rfl (hw2.2.1 2 (by decide)).1 dX9_copy_31 ?_
  refine lv_iconst (v := (0 : Int32)) hx hb dX9_copy_34 (by decide) ?_
  refine lv_aload_n hx hb dX9_copy_35 rfl (lv_at hl 0 rfl) ?_
  refine z_getr (o := w + 3) C0 hW fl_X9_18 hw.1 rfl (hw.2.1 2 (by decide)).1 dX9_copy_36 ?_
  refine lv_iconst (v := (0 : Int32)) hx hb dX9_copy_39 (by decide) ?_
  refine lv_bipush (v := (8 : Int32)) hx hb dX9_copy_40 (by decide) ?_
  refine z_copyi (n := 8) C0 hml hl.1 hW hS (hw2.2.1 2 (by decide)).2.1 (hw2.2.1 2 (by decide)).2.2 (hw.2.1 2 (by decide)).2.1 (hw.2.1 2 (by decide)).2.2 ⟨by decide, by decide⟩ ⟨by decide, by decide⟩ w_ac_X9_77 (Nat.le_of_ble_eq_true rfl) (Nat.le_of_ble_eq_true rfl) dX9_copy_42 (fun H locs u3 e1 hW hS => ?_)
  replace h := z_ly h e1
  clear e1
  refine lv_aload_n hx hb dX9_copy_45 rfl (lv_at hl 1 rfl) ?_
  refine z_getr (o := w2 + 4) C0 hW fl_X9_21 hw2.1 rfl (hw2.2.1 3 (by decide)).1 dX9_copy_46 ?_
  refine lv_iconst (v := (0 : Int32)) hx hb dX9_copy_49 (by decide) ?_
  refine lv_aload_n hx hb dX9_copy_50 rfl (lv_at hl 0 rfl) ?_
  refine z_getr (o := w + 4) C0 hW fl_X9_21 hw.1 rfl (hw.2.1 3 (by decide)).1 dX9_copy_51 ?_
  refine lv_iconst (v := (0 : Int32)) hx hb dX9_copy_54 (by decide) ?_
  refine lv_bipush (v := (8 : Int32)) hx hb dX9_copy_55 (by decide) ?_
  refine z_copyi (n := 8) C0 hml hl.1 hW hS (hw2.2.1 3 (by decide)).2.1 (hw2.2.1 3 (by decide)).2.2 (hw.2.1 3 (by decide)).2.1 (hw.2.1 3 (by decide)).2.2 ⟨by decide, by decide⟩ ⟨by decide, by decide⟩ w_ac_X9_77 (Nat.le_of_ble_eq_true rfl) (Nat.le_of_ble_eq_true rfl) dX9_copy_57 (fun H locs u4 e1 hW hS => ?_)
  replace h := z_ly h e1
  clear e1
  refine lv_aload_n hx hb dX9_copy_60 rfl (lv_at hl 1 rfl) ?_
  refine z_getr (o := w2 + 5) C0 hW fl_X9_24 hw2.1 rfl (hw2.2.1 4 (by decide)).1 dX9_copy_61 ?_
  refine lv_iconst (v := (0 : Int32)) hx hb dX9_copy_64 (by decide) ?_
  refine lv_aload_n hx hb dX9_copy_65 rfl (lv_at hl 0 rfl) ?_
  refine z_getr (o := w + 5) C0 hW fl_X9_24 hw.1 rfl (hw.2.1 4 (by decide)).1 dX9_copy_66 ?_
  refine lv_iconst (v := (0 : Int32)) hx hb dX9_copy_69 (by decide) ?_
  refine lv_bipush (v := (8 : Int32)) hx hb dX9_copy_70 (by decide) ?_
  refine z_copyi (n := 8) C0 hml hl.1 hW hS (hw2.2.1 4 (by decide)).2.1 (hw2.2.1 4 (by decide)).2.2 (hw.2.1 4 (by decide)).2.1 (hw.2.1 4 (by decide)).2.2 ⟨by decide, by decide⟩ ⟨by decide, by decide⟩ w_ac_X9_77 (Nat.le_of_ble_eq_true rfl) (Nat.le_of_ble_eq_true rfl) dX9_copy_72 (fun H locs u5 e1 hW hS => ?_)
  replace h := z_ly h e1
  clear e1
  refine lv_aload_n hx hb dX9_copy_75 rfl (lv_at hl 1 rfl) ?_
  refine z_getr (o := w2 + 6) C0 hW fl_X9_27 hw2.1 rfl (hw2.2.1 5 (by decide)).1 dX9_copy_76 ?_
  refine lv_iconst (v := (0 : Int32)) hx hb dX9_copy_79 (by decide) ?_
  refine lv_aload_n hx hb dX9_copy_80 rfl (lv_at hl 0 rfl) ?_
  refine z_getr (o := w + 6) C0 hW fl_X9_27 hw.1 rfl (hw.2.1 5 (by decide)).1 dX9_copy_81 ?_
  refine lv_iconst (v := (0 : Int32)) hx hb dX9_copy_84 (by decide) ?_
  refine lv_bipush (v := (8 : Int32)) hx hb dX9_copy_85 (by decide) ?_
  refine z_copyi (n := 8) C0 hml hl.1 hW hS (hw2.2.1 5 (by decide)).2.1 (hw2.2.1 5 (by decide)).2.2 (hw.2.1 5 (by decide)).2.1 (hw.2.1 5 (by decide)).2.2 ⟨by decide, by decide⟩ ⟨by decide, by decide⟩ w_ac_X9_77 (Nat.le_of_ble_eq_true rfl) (Nat.le_of_ble_eq_true rfl) dX9_copy_87 (fun H locs u6 e1 hW hS => ?_)
  replace h := z_ly h e1
  clear e1
  refine lv_aload_n hx hb dX9_copy_90 rfl (lv_at hl 1 rfl) ?_
  refine z_getr (o := w2 + 7) C0 hW fl_X9_30 hw2.1 rfl (hw2.2.1 6 (by decide)).1 dX9_copy_91 ?_
  refine lv_iconst (v := (0 : Int32)) hx hb dX9_copy_94 (by decide) ?_
  refine lv_aload_n hx hb dX9_copy_95 rfl (lv_at hl 0 rfl) ?_
  refine z_getr (o := w + 7) C0 hW fl_X9_30 hw.1 rfl (hw.2.1 6 (by decide)).1 dX9_copy_96 ?_
  refine lv_iconst (v := (0 : Int32)) hx hb dX9_copy_99 (by decide) ?_
  refine lv_iconst (v := (4 : Int32)) hx hb dX9_copy_100 (by decide) ?_
  refine z_copyi (n := 4) C0 hml hl.1 hW hS (hw2.2.1 6 (by decide)).2.1 (hw2.2.1 6 (by decide)).2.2 (hw.2.1 6 (by decide)).2.1 (hw.2.1 6 (by decide)).2.2 ⟨by decide, by decide⟩ ⟨by decide, by decide⟩ w_ac_X9_77 (Nat.le_of_ble_eq_true rfl) (Nat.le_of_ble_eq_true rfl) dX9_copy_101 (fun H locs u7 e1 hW hS => ?_)
  replace h := z_ly h e1
  clear e1
  refine lv_aload_n hx hb dX9_copy_104 rfl (lv_at hl 0 rfl) ?_
  refine lv_aload_n hx hb dX9_copy_105 rfl (lv_at hl 1 rfl) ?_
  refine z_geti C0 hW fl_X9_36 hw2.1 rfl dX9_copy_106 ?_
  refine z_puti C0 hW hS fl_X9_36 hw.1 rfl rfl rfl dX9_copy_109 (fun H locs u8 e1 hW hS => ?_)
  replace h := z_ly h e1
  clear e1
  refine lv_aload_n hx hb dX9_copy_112 rfl (lv_at hl 0 rfl) ?_
  refine lv_aload_n hx hb dX9_copy_113 rfl (lv_at hl 1 rfl) ?_
  refine z_geti C0 hW fl_X9_40 hw2.1 rfl dX9_copy_114 ?_
  refine z_puti C0 hW hS fl_X9_40 hw.1 rfl rfl rfl dX9_copy_117 (fun H locs u9 e1 hW hS => ?_)
  replace h := z_ly h e1
  clear e1
  refine lv_aload_n hx hb dX9_copy_120 rfl (lv_at hl 0 rfl) ?_
  refine lv_aload_n hx hb dX9_copy_121 rfl (lv_at hl 1 rfl) ?_
  refine z_geti C0 hW fl_X9_43 hw2.1 rfl dX9_copy_122 ?_
  refine z_puti C0 hW hS fl_X9_43 hw.1 rfl rfl rfl dX9_copy_125 (fun H locs u10 e1 hW hS => ?_)
  replace h := z_ly h e1
  clear e1
  refine lv_aload_n hx hb dX9_copy_128 rfl (lv_at hl 0 rfl) ?_
  refine lv_aload_n hx hb dX9_copy_129 rfl (lv_at hl 1 rfl) ?_
  refine z_geti C0 hW fl_X9_46 hw2.1 rfl dX9_copy_130 ?_
  refine z_puti C0 hW hS fl_X9_46 hw.1 rfl rfl rfl dX9_copy_133 (fun H locs u11 e1 hW hS => ?_)
  replace h := z_ly h e1
  clear e1
  refine lv_aload_n hx hb dX9_copy_136 rfl (lv_at hl 0 rfl) ?_
  refine lv_aload_n hx hb dX9_copy_137 rfl (lv_at hl 1 rfl) ?_
  refine z_geti C0 hW fl_X9_49 hw2.1 rfl dX9_copy_138 ?_
  refine z_puti C0 hW hS fl_X9_49 hw.1 rfl rfl rfl dX9_copy_141 (fun H locs u12 e1 hW hS => ?_)
  replace h := z_ly h e1
  clear e1
  refine lv_aload_n hx hb dX9_copy_144 rfl (lv_at hl 0 rfl) ?_
  refine lv_aload_n hx hb dX9_copy_145 rfl (lv_at hl 1 rfl) ?_
  refine z_geti C0 hW fl_X9_52 hw2.1 rfl dX9_copy_146 ?_
  refine z_puti C0 hW hS fl_X9_52 hw.1 rfl rfl rfl dX9_copy_149 (fun H locs u13 e1 hW hS => ?_)
  replace h := z_ly h e1
  clear e1
  refine lv_aload_n hx hb dX9_copy_152 rfl (lv_at hl 0 rfl) ?_
  refine lv_aload_n hx hb dX9_copy_153 rfl (lv_at hl 1 rfl) ?_
  refine z_geti C0 hW fl_X9_55 hw2.1 rfl dX9_copy_154 ?_
  refine z_puti C0 hW hS fl_X9_55 hw.1 rfl rfl rfl dX9_copy_157 (fun H locs u14 e1 hW hS => ?_)
  replace h := z_ly h e1
  clear e1
  refine lv_aload_n hx hb dX9_copy_160 rfl (lv_at hl 0 rfl) ?_
  refine lv_aload_n hx hb dX9_copy_161 rfl (lv_at hl 1 rfl) ?_
  refine z_geti C0 hW fl_X9_58 hw2.1 rfl dX9_copy_162 ?_
  refine z_puti C0 hW hS fl_X9_58 hw.1 rfl rfl rfl dX9_copy_165 (fun H locs u15 e1 hW hS => ?_)
  replace h := z_ly h e1
  clear e1
  refine lv_aload_n hx hb dX9_copy_168 rfl (lv_at hl 0 rfl) ?_
  refine lv_aload_n hx hb dX9_copy_169 rfl (lv_at hl 1 rfl) ?_
  refine z_geti C0 hW fl_X9_61 hw2.1 rfl dX9_copy_170 ?_
  refine z_puti C0 hW hS fl_X9_61 hw.1 rfl rfl rfl dX9_copy_173 (fun H locs u16 e1 hW hS => ?_)
  replace h := z_ly h e1
  clear e1
  refine lv_aload_n hx hb dX9_copy_176 rfl (lv_at hl 0 rfl) ?_
  refine lv_aload_n hx hb dX9_copy_177 rfl (lv_at hl 1 rfl) ?_
  refine z_geti C0 hW fl_X9_64 hw2.1 rfl dX9_copy_178 ?_
  refine z_puti C0 hW hS fl_X9_64 hw.1 rfl rfl rfl dX9_copy_181 (fun H locs u17 e1 hW hS => ?_)
  replace h := z_ly h e1
  clear e1
  refine lv_aload_n hx hb dX9_copy_184 rfl (lv_at hl 0 rfl) ?_
  refine lv_aload_n hx hb dX9_copy_185 rfl (lv_at hl 1 rfl) ?_
  refine z_geti C0 hW fl_X9_67 hw2.1 rfl dX9_copy_186 ?_
  refine z_puti C0 hW hS fl_X9_67 hw.1 rfl rfl rfl dX9_copy_189 (fun H locs u18 e1 hW hS => ?_)
  replace h := z_ly h e1
  clear e1
  refine lv_aload_n hx hb dX9_copy_192 rfl (lv_at hl 0 rfl) ?_
  refine lv_aload_n hx hb dX9_copy_193 rfl (lv_at hl 1 rfl) ?_
  refine z_getr (o := L2 0) C0 hW fl_X9_73 hw2.1 rfl hw2.2.2.1 dX9_copy_194 ?_
  refine z_putr (o := L2 0) C0 hW hS fl_X9_73 hw.1 rfl rfl rfl dX9_copy_197 (fun H locs hW hS => ?_)
  cases h
  exact z_vret C0 hr hlk hW hS dX9_copy_200
def f_X3_hold (q : zq) (k : Nat) (a3 : Int32) (u : zU) : Option (Unit × zq × zU) :=
  z_let (f_X9_copy (wr (2 + k)) (q (2 + k)) 6 (q 0) u) (fun u1 => z_let (zup q (2 + k) (q 0)) (fun q2 => z_let (f_X2_copy (52 + 14 * k) 36 u1) (fun u3 => z_let (z_up u3 (40 + 14 * k) 2 a3) (fun u4 => some ((), q2, u4)))))
theorem f_X3_hold_e (q : zq) (k : Nat) (a3 : Int32) (u : zU) : f_X3_hold q k a3 u = z_let (f_X9_copy (wr (2 + k)) (q (2 + k)) 6 (q 0) u) (fun u1 => z_let (zup q (2 + k) (q 0)) (fun q2 => z_let (f_X2_copy (52 + 14 * k) 36 u1) (fun u3 => z_let (z_up u3 (40 + 14 * k) 2 a3) (fun u4 => some ((), q2, u4))))) := rfl
set_option maxRecDepth 100000 in
set_option maxHeartbeats 4000000 in
theorem c_X3_hold (l : Launch) (D : zD) (A : Nat → Prop) (b : Nat) (G : zG) (q : zq) (k : Nat) (hT : zTop G q) (hk : k < 13) (a3 : Int32) (u : zU) {q' : zq} {u' : zU} (h : f_X3_hold q k a3 u = some ((), q', u')) : z_MT l D A b G yX3_hold cX3_hold 4 none 2 61 [.ref (b + (40 + 14 * k)), .ref (b + 6), .ref (b + 36), .int a3] q u none q' u' := by
  refine z_enterT (by decide) (Nat.le_of_ble_eq_true rfl) ?_
  intro p e s m below meth c ls C0 hr hml hlk hW hS hl
  have hl : lv_has ls 4 [(0, .ref (b + (40 + 14 * k))), (1, .ref (b + 6)), (2, .ref (b + 36)), (3, .int a3)] := hl
  have hx := C0.1
  have hb := C0.2.1
  have hs := hT.1
  rw [f_X3_hold_e] at h
  refine lv_aload_n hx hb dX3_hold_0 rfl (lv_at hl 0 rfl) ?_
  refine z_getr (o := wr (2 + k)) C0 hW fl_X3_10 (hT.2.2.2 k hk).1 rfl (hT.2.2.2 k hk).2.1 dX3_hold_1 ?_
  refine lv_aload_n hx hb dX3_hold_4 rfl (lv_at hl 1 rfl) ?_
  obtain ⟨u1, hq⟩ : ∃ y, f_X9_copy (wr (2 + k)) (q (2 + k)) 6 (q 0) u = y := ⟨_, rfl⟩
  replace h := z_lz h hq
  refine z_cv2v (As := [.ref (b + 6)]) C0 hml hl.1 hW hS (c_X9_copy l D A b (zg G q) (wr (2 + k)) (q (2 + k)) 6 (q 0) (zTk hT (k := k) hk) (zT0 hT) u hq) mv_X3_27 (zTk hT (k := k) hk).1 ⟨Nat.le_of_ble_eq_true rfl, Nat.le_of_ble_eq_true rfl⟩ rfl rfl (Nat.le_of_ble_eq_true rfl) dX3_hold_5 (fun H locs hW hS => ?_)
  clear hq
  replace hW : z_W D A b (zg G (zup q (2 + k) (q 0))) u1 H := by rw [← zgs_zg G q (i := (2 + k)) (by omega) (q 0)]; exact hW
  replace hT := zTop_up (i := (2 + k)) hT (j := 0) (by decide)
  obtain ⟨q2, e1⟩ : ∃ y, y = zup q (2 + k) (q 0) := ⟨_, rfl⟩
  rw [← e1] at hW hT
  replace h := z_ly h e1
  clear e1
  replace hs := hT.1
  refine lv_aload_n hx hb dX3_hold_8 rfl (lv_at hl 0 rfl) ?_
  refine z_getr (o := 52 + 14 * k) C0 hW fl_X3_19 (hT.2.2.2 k hk).1 rfl (hT.2.2.2 k hk).2.2.1 dX3_hold_9 ?_
  refine lv_aload_n hx hb dX3_hold_12 rfl (lv_at hl 2 rfl) ?_
  obtain ⟨u3, hq⟩ : ∃ y, f_X2_copy (52 + 14 * k) 36 u1 = y := ⟨_, rfl⟩
  replace h := z_lz h hq
  refine z_cvv (As := [.ref (b + 36)]) C0 hml hl.1 hW hS (c_X2_copy l D A b (zg G q2) (52 + 14 * k) 36 (hT.2.2.2 k hk).2.2.2 hT.2.2.1 u1 hq) mv_X3_31 (hT.2.2.2 k hk).2.2.2.1 ⟨Nat.le_of_ble_eq_true rfl, Nat.le_of_ble_eq_true rfl⟩ rfl rfl (Nat.le_of_ble_eq_true rfl) dX3_hold_13 (fun H locs hW hS => ?_)
  clear hq
  refine lv_aload_n hx hb dX3_hold_16 rfl (lv_at hl 0 rfl) ?_
  refine lv_iload_n hx hb dX3_hold_17 rfl (lv_at hl 3 rfl) ?_
  refine z_puti C0 hW hS fl_X3_23 (hT.2.2.2 k hk).1 rfl rfl rfl dX3_hold_18 (fun H locs u4 e1 hW hS => ?_)
  replace h := z_ly h e1
  clear e1
  cases h
  exact z_vretT C0 hr hlk hW hS hT dX3_hold_21
def f_X0_remember (q : zq) (a3 : Int32) (u : zU) : Option (Unit × zq × zU) :=
  z_let (u 38 1) (fun z1 => if z_in z1 12 = true then (z_b3 (f_X3_hold (q) ((z1).toNatClampNeg) a3 u) (fun w3 q5 u4 => z_let (z_up u4 38 1 (z_rem ((u4 38 1) + (1 : Int32)) (12 : Int32))) (fun u6 => z_let (z_min (12 : Int32) ((u6 38 2) + (1 : Int32))) (fun z7 => z_let (z_up u6 38 2 z7) (fun u8 => some ((), q5, u8)))))) else none)
theorem f_X0_remember_e (q : zq) (a3 : Int32) (u : zU) : f_X0_remember q a3 u = z_let (u 38 1) (fun z1 => if z_in z1 12 = true then (z_b3 (f_X3_hold (q) ((z1).toNatClampNeg) a3 u) (fun w3 q5 u4 => z_let (z_up u4 38 1 (z_rem ((u4 38 1) + (1 : Int32)) (12 : Int32))) (fun u6 => z_let (z_min (12 : Int32) ((u6 38 2) + (1 : Int32))) (fun z7 => z_let (z_up u6 38 2 z7) (fun u8 => some ((), q5, u8)))))) else none) := rfl
set_option maxRecDepth 100000 in
set_option maxHeartbeats 4000000 in
theorem c_X0_remember (l : Launch) (D : zD) (A : Nat → Prop) (b : Nat) (G : zG) (q : zq) (hT : zTop G q) (a3 : Int32) (u : zU) {q' : zq} {u' : zU} (h : f_X0_remember q a3 u = some ((), q', u')) : z_MT l D A b G yX0_remember cX0_remember 5 none 3 84 [.ref (b + 38), .ref (b + 6), .ref (b + 36), .int a3] q u none q' u' := by
  refine z_enterT (by decide) (Nat.le_of_ble_eq_true rfl) ?_
  intro p e s m below meth c ls C0 hr hml hlk hW hS hl
  have hl : lv_has ls 5 [(0, .ref (b + 38)), (1, .ref (b + 6)), (2, .ref (b + 36)), (3, .int a3)] := hl
  have hx := C0.1
  have hb := C0.2.1
  have hs := hT.1
  rw [f_X0_remember_e] at h
  refine lv_aload_n hx hb dX0_remember_0 rfl (lv_at hl 0 rfl) ?_
  refine z_getr (o := 39) C0 hW fl_X0_11 (zk1 (hs 38 (by decide))) rfl (zk3 (hs 38 (by decide)) 0) dX0_remember_1 ?_
  refine lv_aload_n hx hb dX0_remember_4 rfl (lv_at hl 0 rfl) ?_
  refine z_geti C0 hW fl_X0_15 (zk1 (hs 38 (by decide))) rfl dX0_remember_5 ?_
  refine lv_topi (fun z1 e1 => ?_)
  replace h := z_ly h e1
  clear e1
  replace h := z_if h
  obtain ⟨hin, h⟩ := h
  have hk2 : (z1).toNatClampNeg < 13 := Nat.lt_trans (z_in_lt hin) (by decide)
  refine z_aald (o := 40 + 14 * (z1).toNatClampNeg) C0 hW (zk1 (hs 39 (by decide))) (zk2 (hs 39 (by decide))) hin rfl (zk3 (hs 39 (by decide)) _) dX0_remember_8 ?_
  clear hin
  refine lv_astore (lv' := [(4, .ref (b + (40 + 14 * ((z1).toNatClampNeg)))), (0, .ref (b + 38)), (1, .ref (b + 6)), (2, .ref (b + 36)), (3, .int a3)]) hx hb dX0_remember_9 hl (by decide) rfl (fun ls hl => ?_)
  refine lv_aload hx hb dX0_remember_11 (lv_at hl 0 rfl) ?_
  refine lv_ifnull hx hb dX0_remember_13 ?_
  refine lv_aload hx hb dX0_remember_16 (lv_at hl 0 rfl) ?_
  refine lv_aload_n hx hb dX0_remember_18 rfl (lv_at hl 2 rfl) ?_
  refine lv_aload_n hx hb dX0_remember_19 rfl (lv_at hl 3 rfl) ?_
  refine lv_iload_n hx hb dX0_remember_20 rfl (lv_at hl 4 rfl) ?_
  replace h := z_bd3 h
  obtain ⟨w3, q5, u4, hq, h⟩ := h
  refine z_cvTv (As := [.ref (b + 6), .ref (b + 36), .int a3]) C0 hml hl.1 hW hS (c_X3_hold l D A b G (q) ((z1).toNatClampNeg) hT hk2 a3 u hq) mv_X0_23 (hT.2.2.2 (z1).toNatClampNeg hk2).1 ⟨Nat.le_of_ble_eq_true rfl, Nat.le_of_ble_eq_true rfl⟩ rfl rfl (Nat.le_of_ble_eq_true rfl) dX0_remember_21 (fun H locs hW hS hT => ?_)
  clear hq
  have hs := hT.1
  refine lv_aload_n hx hb dX0_remember_24 rfl (lv_at hl 1 rfl) ?_
  refine lv_aload_n hx hb dX0_remember_25 rfl (lv_at hl 1 rfl) ?_
  refine z_geti C0 hW fl_X0_15 (zk1 (hs 38 (by decide))) rfl dX0_remember_26 ?_
  refine lv_iconst (v := (1 : Int32)) hx hb dX0_remember_29 (by decide) ?_
  refine lv_iadd hx hb dX0_remember_30 ?_
  refine lv_bipush (v := (12 : Int32)) hx hb dX0_remember_31 (by decide) ?_
  refine lv_irem hx hb dX0_remember_33 (by decide) ?_
  refine z_puti C0 hW hS fl_X0_15 (zk1 (hs 38 (by decide))) rfl rfl rfl dX0_remember_34 (fun H locs u6 e1 hW hS => ?_)
  replace h := z_ly h e1
  clear e1
  refine lv_aload_n hx hb dX0_remember_37 rfl (lv_at hl 1 rfl) ?_
  refine lv_bipush (v := (12 : Int32)) hx hb dX0_remember_38 (by decide) ?_
  refine lv_aload_n hx hb dX0_remember_40 rfl (lv_at hl 1 rfl) ?_
  refine z_geti C0 hW fl_X0_19 (zk1 (hs 38 (by decide))) rfl dX0_remember_41 ?_
  refine lv_iconst (v := (1 : Int32)) hx hb dX0_remember_44 (by decide) ?_
  refine lv_iadd hx hb dX0_remember_45 ?_
  refine va_mmin hx hb (hml.trans hl.1.symm) C0.2.2.2.1 (C0.2.2.1 _ w_mm_X0_27) (C0.2.2.1 _ w_mst_min) (C0.2.2.1 _ w_min_Math) (C0.2.2.1 _ w_mco_min) (Nat.le_of_ble_eq_true rfl) (Nat.le_of_ble_eq_true rfl) (Nat.zero_le _) (Nat.zero_le _) dX0_remember_46 ?_
  refine lv_topi (fun z7 e1 => ?_)
  replace h := z_ly h e1
  clear e1
  refine z_puti C0 hW hS fl_X0_19 (zk1 (hs 38 (by decide))) rfl rfl rfl dX0_remember_49 (fun H locs u8 e1 hW hS => ?_)
  replace h := z_ly h e1
  clear e1
  cases h
  exact z_vretT C0 hr hlk hW hS hT dX0_remember_52
def f_X0_drop (q : zq)  (u : zU) : Option (zU) :=
  (f_J9_floorMod_7cf53 ((u 38 1) - (1 : Int32)) (12 : Int32) u).bind (fun r1 => z_let (z_up u 38 1 r1) (fun u2 => z_let (z_max (0 : Int32) ((u2 38 2) - (1 : Int32))) (fun z3 => z_let (z_up u2 38 2 z3) (fun u4 => some u4))))
theorem f_X0_drop_e (q : zq)  (u : zU) : f_X0_drop q u = (f_J9_floorMod_7cf53 ((u 38 1) - (1 : Int32)) (12 : Int32) u).bind (fun r1 => z_let (z_up u 38 1 r1) (fun u2 => z_let (z_max (0 : Int32) ((u2 38 2) - (1 : Int32))) (fun z3 => z_let (z_up u2 38 2 z3) (fun u4 => some u4)))) := rfl
set_option maxRecDepth 100000 in
set_option maxHeartbeats 4000000 in
theorem c_X0_drop (l : Launch) (D : zD) (A : Nat → Prop) (b : Nat) (G : zG) (q : zq) (hT : zTop G q)  (u : zU) {u' : zU} (h : f_X0_drop q u = some u') : z_M l D A b (zg G q) yX0_drop cX0_drop 1 none 1 22 [.ref (b + 38)] u none u' := by
  refine z_enter (by decide) (Nat.le_of_ble_eq_true rfl) ?_
  intro p e s m below meth c ls C0 hr hml hlk hW hS hl
  have hl : lv_has ls 1 [(0, .ref (b + 38))] := hl
  have hx := C0.1
  have hb := C0.2.1
  have hs := hT.1
  rw [f_X0_drop_e] at h
  refine lv_aload_n hx hb dX0_drop_0 rfl (lv_at hl 0 rfl) ?_
  refine lv_aload_n hx hb dX0_drop_1 rfl (lv_at hl 0 rfl) ?_
  refine z_geti C0 hW fl_X0_15 (zk1 (hs 38 (by decide))) rfl dX0_drop_2 ?_
  refine lv_iconst (v := (1 : Int32)) hx hb dX0_drop_5 (by decide) ?_
  refine lv_isub hx hb dX0_drop_6 ?_
  refine lv_bipush (v := (12 : Int32)) hx hb dX0_drop_7 (by decide) ?_
  replace h := z_bd h
  obtain ⟨r1, hq, h⟩ := h
  refine z_csi (As := [.int ((u 38 1) - (1 : Int32)), .int (12 : Int32)]) C0 hml hl.1 hW hS (c_J9_floorMod_7cf53 l D A b (zg G q) ((u 38 1) - (1 : Int32)) (12 : Int32) u hq) ms_X0_33 ⟨Nat.le_of_ble_eq_true rfl, Nat.le_of_ble_eq_true rfl⟩ rfl rfl (Nat.le_of_ble_eq_true rfl) dX0_drop_9 (fun H locs hW hS => ?_)
  clear hq
  refine z_puti C0 hW hS fl_X0_15 (zk1 (hs 38 (by decide))) rfl rfl rfl dX0_drop_12 (fun H locs u2 e1 hW hS => ?_)
  replace h := z_ly h e1
  clear e1
  refine lv_aload_n hx hb dX0_drop_15 rfl (lv_at hl 0 rfl) ?_
  refine lv_iconst (v := (0 : Int32)) hx hb dX0_drop_16 (by decide) ?_
  refine lv_aload_n hx hb dX0_drop_17 rfl (lv_at hl 0 rfl) ?_
  refine z_geti C0 hW fl_X0_19 (zk1 (hs 38 (by decide))) rfl dX0_drop_18 ?_
  refine lv_iconst (v := (1 : Int32)) hx hb dX0_drop_21 (by decide) ?_
  refine lv_isub hx hb dX0_drop_22 ?_
  refine va_mmax hx hb (hml.trans hl.1.symm) C0.2.2.2.1 (C0.2.2.1 _ w_mm_X0_36) (C0.2.2.1 _ w_mst_max) (C0.2.2.1 _ w_min_Math) (C0.2.2.1 _ w_mco_max) (Nat.le_of_ble_eq_true rfl) (Nat.le_of_ble_eq_true rfl) (Nat.zero_le _) (Nat.zero_le _) dX0_drop_23 ?_
  refine lv_topi (fun z3 e1 => ?_)
  replace h := z_ly h e1
  clear e1
  refine z_puti C0 hW hS fl_X0_19 (zk1 (hs 38 (by decide))) rfl rfl rfl dX0_drop_26 (fun H locs u4 e1 hW hS => ?_)
  replace h := z_ly h e1
  clear e1
  cases h
  exact z_vret C0 hr hlk hW hS dX0_drop_29
def f_X0_forget (q : zq)  (u : zU) : zU :=
  z_let (z_up u 38 2 (0 : Int32)) (fun u1 => u1)
theorem f_X0_forget_e (q : zq)  (u : zU) : f_X0_forget q u = z_let (z_up u 38 2 (0 : Int32)) (fun u1 => u1) := rfl
set_option maxRecDepth 100000 in
set_option maxHeartbeats 4000000 in
theorem c_X0_forget (l : Launch) (D : zD) (A : Nat → Prop) (b : Nat) (G : zG) (q : zq) (hT : zTop G q)  (u : zU) {u' : zU} (h : f_X0_forget q u = u') : z_M l D A b (zg G q) yX0_forget cX0_forget 1 none 0 0 [.ref (b + 38)] u none u' := by
  refine z_enter (by decide) (Nat.le_of_ble_eq_true rfl) ?_
  intro p e s m below meth c ls C0 hr hml hlk hW hS hl
  have hl : lv_has ls 1 [(0, .ref (b + 38))] := hl
  have hx := C0.1
  have hb := C0.2.1
  have hs := hT.1
  rw [f_X0_forget_e] at h
  refine lv_aload_n hx hb dX0_forget_0 rfl (lv_at hl 0 rfl) ?_
  refine lv_iconst (v := (0 : Int32)) hx hb dX0_forget_1 (by decide) ?_
  refine z_puti C0 hW hS fl_X0_19 (zk1 (hs 38 (by decide))) rfl rfl rfl dX0_forget_2 (fun H locs u1 e1 hW hS => ?_)
  replace h := z_ly h e1
  clear e1
  cases h
  exact z_vret C0 hr hlk hW hS dX0_forget_5
def f_X10_feed (q : zq) (a1 : Int32) (a2 : Int32) (a3 : Int32) (a4 : Int32) (a5 : Int32) (u : zU) : Option (Int32 × zU) :=
  if ((u 1 1) + (20 : Int32)) ≤ (400 : Int32) then ((f_X7_add a1 u).bind (fun u1 => (f_X7_add a2 u1).bind (fun u2 => (f_X7_add a3 u2).bind (fun u3 => (f_X7_add a4 u3).bind (fun u4 => (f_X7_add a5 u4).bind (fun u5 => some (u5 1 1, u5))))))) else (some ((-1 : Int32), u))
theorem f_X10_feed_e (q : zq) (a1 : Int32) (a2 : Int32) (a3 : Int32) (a4 : Int32) (a5 : Int32) (u : zU) : f_X10_feed q a1 a2 a3 a4 a5 u = if ((u 1 1) + (20 : Int32)) ≤ (400 : Int32) then ((f_X7_add a1 u).bind (fun u1 => (f_X7_add a2 u1).bind (fun u2 => (f_X7_add a3 u2).bind (fun u3 => (f_X7_add a4 u3).bind (fun u4 => (f_X7_add a5 u4).bind (fun u5 => some (u5 1 1, u5))))))) else (some ((-1 : Int32), u)) := rfl
set_option maxRecDepth 100000 in
set_option maxHeartbeats 4000000 in
theorem c_X10_feed (l : Launch) (D : zD) (A : Nat → Prop) (b : Nat) (G : zG) (q : zq) (hT : zTop G q) (a1 : Int32) (a2 : Int32) (a3 : Int32) (a4 : Int32) (a5 : Int32) (u : zU) {v : Int32} {u' : zU} (h : f_X10_feed q a1 a2 a3 a4 a5 u = some (v, u')) : z_M l D A b (zg G q) yX10_feed cX10_feed 6 (some .int) 1 22 [.ref (b + 0), .int a1, .int a2, .int a3, .int a4, .int a5] u (some (.int v)) u' := by
  refine z_enter (by decide) (Nat.le_of_ble_eq_true rfl) ?_
  intro p e s m below meth c ls C0 hr hml hlk hW hS hl
  have hl : lv_has ls 6 [(0, .ref (b + 0)), (1, .int a1), (2, .int a2), (3, .int a3), (4, .int a4), (5, .int a5)] := hl
  have hx := C0.1
  have hb := C0.2.1
  have hs := hT.1
  rw [f_X10_feed_e] at h
  refine lv_aload_n hx hb dX10_feed_0 rfl (lv_at hl 0 rfl) ?_
  refine z_getr (o := 1) C0 hW fl_X10_10 (zk1 (hs 0 (by decide))) rfl (zk3 (hs 0 (by decide)) 0) dX10_feed_1 ?_
  refine z_geti C0 hW fl_X10_85 (zk1 (hs 1 (by decide))) rfl dX10_feed_4 ?_
  refine lv_bipush (v := (20 : Int32)) hx hb dX10_feed_7 (by decide) ?_
  refine lv_iadd hx hb dX10_feed_9 ?_
  refine lv_sipush (v := (400 : Int32)) hx hb dX10_feed_10 (by decide) ?_
  refine lv_icmp_le (tgt := 18) hx hb dX10_feed_13 (by decide) (fun hc => ?_) (fun hc => ?_)
  · replace h := z_t h hc
    clear hc
    refine lv_aload_n hx hb dX10_feed_18 rfl (lv_at hl 0 rfl) ?_
    refine z_getr (o := 1) C0 hW fl_X10_10 (zk1 (hs 0 (by decide))) rfl (zk3 (hs 0 (by decide)) 0) dX10_feed_19 ?_
    refine lv_iload_n hx hb dX10_feed_22 rfl (lv_at hl 1 rfl) ?_
    replace h := z_bd h
    obtain ⟨u1, hq, h⟩ := h
    refine z_cvv (As := [.int a1]) C0 hml hl.1 hW hS (c_X7_add l D A b (zg G q) hs a1 u hq) mv_X10_88 (zk1 (hs 1 (by decide))) ⟨Nat.le_of_ble_eq_true rfl, Nat.le_of_ble_eq_true rfl⟩ rfl rfl (Nat.le_of_ble_eq_true rfl) dX10_feed_23 (fun H locs hW hS => ?_)
    clear hq
    refine lv_aload_n hx hb dX10_feed_26 rfl (lv_at hl 0 rfl) ?_
    refine z_getr (o := 1) C0 hW fl_X10_10 (zk1 (hs 0 (by decide))) rfl (zk3 (hs 0 (by decide)) 0) dX10_feed_27 ?_
    refine lv_iload_n hx hb dX10_feed_30 rfl (lv_at hl 2 rfl) ?_
    replace h := z_bd h
    obtain ⟨u2, hq, h⟩ := h
    refine z_cvv (As := [.int a2]) C0 hml hl.1 hW hS (c_X7_add l D A b (zg G q) hs a2 u1 hq) mv_X10_88 (zk1 (hs 1 (by decide))) ⟨Nat.le_of_ble_eq_true rfl, Nat.le_of_ble_eq_true rfl⟩ rfl rfl (Nat.le_of_ble_eq_true rfl) dX10_feed_31 (fun H locs hW hS => ?_)
    clear hq
    refine lv_aload_n hx hb dX10_feed_34 rfl (lv_at hl 0 rfl) ?_
    refine z_getr (o := 1) C0 hW fl_X10_10 (zk1 (hs 0 (by decide))) rfl (zk3 (hs 0 (by decide)) 0) dX10_feed_35 ?_
    refine lv_iload_n hx hb dX10_feed_38 rfl (lv_at hl 3 rfl) ?_
    replace h := z_bd h
    obtain ⟨u3, hq, h⟩ := h
    refine z_cvv (As := [.int a3]) C0 hml hl.1 hW hS (c_X7_add l D A b (zg G q) hs a3 u2 hq) mv_X10_88 (zk1 (hs 1 (by decide))) ⟨Nat.le_of_ble_eq_true rfl, Nat.le_of_ble_eq_true rfl⟩ rfl rfl (Nat.le_of_ble_eq_true rfl) dX10_feed_39 (fun H locs hW hS => ?_)
    clear hq
    refine lv_aload_n hx hb dX10_feed_42 rfl (lv_at hl 0 rfl) ?_
    refine z_getr (o := 1) C0 hW fl_X10_10 (zk1 (hs 0 (by decide))) rfl (zk3 (hs 0 (by decide)) 0) dX10_feed_43 ?_
    refine lv_iload hx hb dX10_feed_46 (lv_at hl 4 rfl) ?_
    replace h := z_bd h
    obtain ⟨u4, hq, h⟩ := h
    refine z_cvv (As := [.int a4]) C0 hml hl.1 hW hS (c_X7_add l D A b (zg G q) hs a4 u3 hq) mv_X10_88 (zk1 (hs 1 (by decide))) ⟨Nat.le_of_ble_eq_true rfl, Nat.le_of_ble_eq_true rfl⟩ rfl rfl (Nat.le_of_ble_eq_true rfl) dX10_feed_48 (fun H locs hW hS => ?_)
    clear hq
    refine lv_aload_n hx hb dX10_feed_51 rfl (lv_at hl 0 rfl) ?_
    refine z_getr (o := 1) C0 hW fl_X10_10 (zk1 (hs 0 (by decide))) rfl (zk3 (hs 0 (by decide)) 0) dX10_feed_52 ?_
    refine lv_iload hx hb dX10_feed_55 (lv_at hl 5 rfl) ?_
    replace h := z_bd h
    obtain ⟨u5, hq, h⟩ := h
    refine z_cvv (As := [.int a5]) C0 hml hl.1 hW hS (c_X7_add l D A b (zg G q) hs a5 u4 hq) mv_X10_88 (zk1 (hs 1 (by decide))) ⟨Nat.le_of_ble_eq_true rfl, Nat.le_of_ble_eq_true rfl⟩ rfl rfl (Nat.le_of_ble_eq_true rfl) dX10_feed_57 (fun H locs hW hS => ?_)
    clear hq
    refine lv_aload_n hx hb dX10_feed_60 rfl (lv_at hl 0 rfl) ?_
    refine z_getr (o := 1) C0 hW fl_X10_10 (zk1 (hs 0 (by decide))) rfl (zk3 (hs 0 (by decide)) 0) dX10_feed_61 ?_
    refine z_geti C0 hW fl_X10_85 (zk1 (hs 1 (by decide))) rfl dX10_feed_64 ?_
    cases h
    exact z_iret C0 hr hlk hW hS dX10_feed_67
  · replace h := z_f h hc
    clear hc
    refine lv_iconst (v := (-1 : Int32)) hx hb dX10_feed_16 (by decide) ?_
    cases h
    exact z_iret C0 hr hlk hW hS dX10_feed_17
def f_X10_end (q : zq) (a1 : Int32) (u : zU) : Bool × zU :=
  if a1 < 0 then ((false, u)) else (if a1 ≤ (u 1 1) then (z_let (z_up u 1 1 a1) (fun u1 => (true, u1))) else ((false, u)))
theorem f_X10_end_e (q : zq) (a1 : Int32) (u : zU) : f_X10_end q a1 u = if a1 < 0 then ((false, u)) else (if a1 ≤ (u 1 1) then (z_let (z_up u 1 1 a1) (fun u1 => (true, u1))) else ((false, u))) := rfl
set_option maxRecDepth 100000 in
set_option maxHeartbeats 4000000 in
theorem c_X10_end (l : Launch) (D : zD) (A : Nat → Prop) (b : Nat) (G : zG) (q : zq) (hT : zTop G q) (a1 : Int32) (u : zU) {v : Bool} {u' : zU} (h : f_X10_end q a1 u = (v, u')) : z_M l D A b (zg G q) yX10_end cX10_end 2 (some .boolean) 0 0 [.ref (b + 0), .int a1] u (some (.int (bI v))) u' := by
  refine z_enter (by decide) (Nat.le_of_ble_eq_true rfl) ?_
  intro p e s m below meth c ls C0 hr hml hlk hW hS hl
  have hl : lv_has ls 2 [(0, .ref (b + 0)), (1, .int a1)] := hl
  have hx := C0.1
  have hb := C0.2.1
  have hs := hT.1
  rw [f_X10_end_e] at h
  refine lv_iload_n hx hb dX10_end_0 rfl (lv_at hl 1 rfl) ?_
  refine lv_if_lt (tgt := 15) hx hb dX10_end_1 (by decide) (fun hc => ?_) (fun hc => ?_)
  · replace h := z_t h hc
    clear hc
    refine lv_iconst (v := (0 : Int32)) hx hb dX10_end_15 (by decide) ?_
    cases h
    exact z_zret (x := false) C0 hr hlk hW hS dX10_end_16
  · replace h := z_f h hc
    clear hc
    refine lv_iload_n hx hb dX10_end_4 rfl (lv_at hl 1 rfl) ?_
    refine lv_aload_n hx hb dX10_end_5 rfl (lv_at hl 0 rfl) ?_
    refine z_getr (o := 1) C0 hW fl_X10_10 (zk1 (hs 0 (by decide))) rfl (zk3 (hs 0 (by decide)) 0) dX10_end_6 ?_
    refine z_geti C0 hW fl_X10_85 (zk1 (hs 1 (by decide))) rfl dX10_end_9 ?_
    refine lv_icmp_le (tgt := 17) hx hb dX10_end_12 (by decide) (fun hc => ?_) (fun hc => ?_)
    · replace h := z_t h hc
      clear hc
      refine lv_aload_n hx hb dX10_end_17 rfl (lv_at hl 0 rfl) ?_
      refine z_getr (o := 1) C0 hW fl_X10_10 (zk1 (hs 0 (by decide))) rfl (zk3 (hs 0 (by decide)) 0) dX10_end_18 ?_
      refine lv_iload_n hx hb dX10_end_21 rfl (lv_at hl 1 rfl) ?_
      refine z_puti C0 hW hS fl_X10_85 (zk1 (hs 1 (by decide))) rfl rfl rfl dX10_end_22 (fun H locs u1 e1 hW hS => ?_)
      replace h := z_ly h e1
      clear e1
      refine lv_iconst (v := (1 : Int32)) hx hb dX10_end_25 (by decide) ?_
      cases h
      exact z_zret (x := true) C0 hr hlk hW hS dX10_end_26
    · replace h := z_f h hc
      clear hc
      refine lv_iconst (v := (0 : Int32)) hx hb dX10_end_15 (by decide) ?_
      cases h
      exact z_zret (x := false) C0 hr hlk hW hS dX10_end_16
def f_X10_fault (q : zq)  (u : zU) : Int32 :=
  u 0 11
theorem f_X10_fault_e (q : zq)  (u : zU) : f_X10_fault q u = u 0 11 := rfl
set_option maxRecDepth 100000 in
set_option maxHeartbeats 4000000 in
theorem c_X10_fault (l : Launch) (D : zD) (A : Nat → Prop) (b : Nat) (G : zG) (q : zq) (hT : zTop G q)  (u : zU) {v : Int32} (h : f_X10_fault q u = v) : z_M l D A b (zg G q) yX10_fault cX10_fault 1 (some .int) 0 0 [.ref (b + 0)] u (some (.int v)) u := by
  refine z_enter (by decide) (Nat.le_of_ble_eq_true rfl) ?_
  intro p e s m below meth c ls C0 hr hml hlk hW hS hl
  have hl : lv_has ls 1 [(0, .ref (b + 0))] := hl
  have hx := C0.1
  have hb := C0.2.1
  have hs := hT.1
  rw [f_X10_fault_e] at h
  refine lv_aload_n hx hb dX10_fault_0 rfl (lv_at hl 0 rfl) ?_
  refine z_geti C0 hW fl_X10_82 (zk1 (hs 0 (by decide))) rfl dX10_fault_1 ?_
  cases h
  exact z_iret C0 hr hlk hW hS dX10_fault_4
def f_X10_useText (q : zq)  (u : zU) : Option ((String ⊕ Unit) × zq × zU) :=
  z_let (z_up u 1 1 (0 : Int32)) (fun u1 => z_let (z_up u1 0 11 (u1 3 5)) (fun u2 => if (u2 0 11) = (-1 : Int32) then (some (.inr (), q, u2)) else (some (.inl "java/lang/IllegalArgumentException", q, u2))))
theorem f_X10_useText_e (q : zq)  (u : zU) : f_X10_useText q u = z_let (z_up u 1 1 (0 : Int32)) (fun u1 => z_let (z_up u1 0 11 (u1 3 5)) (fun u2 => if (u2 0 11) = (-1 : Int32) then (some (.inr (), q, u2)) else (some (.inl "java/lang/IllegalArgumentException", q, u2)))) := rfl
set_option maxRecDepth 100000 in
set_option maxHeartbeats 4000000 in
theorem c_X10_useText (l : Launch) (D : zD) (A : Nat → Prop) (b : Nat) (G : zG) (q : zq) (hT : zTop G q)  (u : zU) {q' : zq} {u' : zU} (h : f_X10_useText q u = some (.inr (), q', u')) : z_MT l D A b G yX10_useText cX10_useText 1 none 6 90 [.ref (b + 0)] q u none q' u' := by
  refine z_enterT (by decide) (Nat.le_of_ble_eq_true rfl) ?_
  intro p e s m below meth c ls C0 hr hml hlk hW hS hl
  have hl : lv_has ls 1 [(0, .ref (b + 0))] := hl
  have hx := C0.1
  have hb := C0.2.1
  have hs := hT.1
  rw [f_X10_useText_e] at h
  refine lv_aload_n hx hb dX10_useText_0 rfl (lv_at hl 0 rfl) ?_
  refine z_getr (o := 1) C0 hW fl_X10_10 (zk1 (hs 0 (by decide))) rfl (zk3 (hs 0 (by decide)) 0) dX10_useText_1 ?_
  refine lv_iconst (v := (0 : Int32)) hx hb dX10_useText_4 (by decide) ?_
  refine z_puti C0 hW hS fl_X10_85 (zk1 (hs 1 (by decide))) rfl rfl rfl dX10_useText_5 (fun H locs u1 e1 hW hS => ?_)
  replace h := z_ly h e1
  clear e1
  refine lv_aload_n hx hb dX10_useText_8 rfl (lv_at hl 0 rfl) ?_
  refine lv_aload_n hx hb dX10_useText_9 rfl (lv_at hl 0 rfl) ?_
  refine z_getr (o := 3) C0 hW fl_X10_21 (zk1 (hs 0 (by decide))) rfl (zk3 (hs 0 (by decide)) 1) dX10_useText_10 ?_
  refine z_geti C0 hW fl_X10_128 (zk1 (hs 3 (by decide))) rfl dX10_useText_13 ?_
  refine z_puti C0 hW hS fl_X10_82 (zk1 (hs 0 (by decide))) rfl rfl rfl dX10_useText_16 (fun H locs u2 e1 hW hS => ?_)
  replace h := z_ly h e1
  clear e1
  refine lv_aload_n hx hb dX10_useText_19 rfl (lv_at hl 0 rfl) ?_
  refine z_geti C0 hW fl_X10_82 (zk1 (hs 0 (by decide))) rfl dX10_useText_20 ?_
  refine lv_iconst (v := (-1 : Int32)) hx hb dX10_useText_23 (by decide) ?_
  refine lv_icmp_eq (tgt := 37) hx hb dX10_useText_24 (by decide) (fun hc => ?_) (fun hc => ?_)
  · replace h := z_t h hc
    clear hc
    cases h
    exact z_vretT C0 hr hlk hW hS hT dX10_useText_37
  · replace h := z_f h hc
    clear hc
    cases h
set_option maxRecDepth 100000 in
set_option maxHeartbeats 4000000 in
theorem t_X10_useText (l : Launch) (D : zD) (A : Nat → Prop) (b : Nat) (G : zG) (q : zq) (hT : zTop G q) (hst : l.stackTraces = false)  (u : zU) {E : String} {q' : zq} {u' : zU} (h : f_X10_useText q u = some (.inl E, q', u')) : z_TX l D A b G yX10_useText cX10_useText 1 none 6 90 [.ref (b + 0)] q u E q' u' := by
  refine z_enterX (by decide) (Nat.le_of_ble_eq_true rfl) ?_
  intro p e s m below meth c ls C0 hex hml hlk hW hS hl
  have hl : lv_has ls 1 [(0, .ref (b + 0))] := hl
  have hx := C0.1
  have hb := C0.2.1
  have hs := hT.1
  rw [f_X10_useText_e] at h
  refine lv_aload_n hx hb dX10_useText_0 rfl (lv_at hl 0 rfl) ?_
  refine z_getr (o := 1) C0 hW fl_X10_10 (zk1 (hs 0 (by decide))) rfl (zk3 (hs 0 (by decide)) 0) dX10_useText_1 ?_
  refine lv_iconst (v := (0 : Int32)) hx hb dX10_useText_4 (by decide) ?_
  refine z_puti C0 hW hS fl_X10_85 (zk1 (hs 1 (by decide))) rfl rfl rfl dX10_useText_5 (fun H locs u1 e1 hW hS => ?_)
  replace h := z_ly h e1
  clear e1
  refine lv_aload_n hx hb dX10_useText_8 rfl (lv_at hl 0 rfl) ?_
  refine lv_aload_n hx hb dX10_useText_9 rfl (lv_at hl 0 rfl) ?_
  refine z_getr (o := 3) C0 hW fl_X10_21 (zk1 (hs 0 (by decide))) rfl (zk3 (hs 0 (by decide)) 1) dX10_useText_10 ?_
  refine z_geti C0 hW fl_X10_128 (zk1 (hs 3 (by decide))) rfl dX10_useText_13 ?_
  refine z_puti C0 hW hS fl_X10_82 (zk1 (hs 0 (by decide))) rfl rfl rfl dX10_useText_16 (fun H locs u2 e1 hW hS => ?_)
  replace h := z_ly h e1
  clear e1
  refine lv_aload_n hx hb dX10_useText_19 rfl (lv_at hl 0 rfl) ?_
  refine z_geti C0 hW fl_X10_82 (zk1 (hs 0 (by decide))) rfl dX10_useText_20 ?_
  refine lv_iconst (v := (-1 : Int32)) hx hb dX10_useText_23 (by decide) ?_
  refine lv_icmp_eq (tgt := 37) hx hb dX10_useText_24 (by decide) (fun hc => ?_) (fun hc => ?_)
  · replace h := z_t h hc
    clear hc
    cases h
  · replace h := z_f h hc
    clear hc
    cases h
    exact z_thr (k := 1) (tx := "the text is wrong") C0 hst hml hl.1 hW hS hT hex hlk tw_131_135 (List.mem_of_getElem? (i := 1) rfl) ⟨Nat.le_of_ble_eq_true rfl, Nat.le_of_ble_eq_true rfl⟩ ⟨Nat.le_of_ble_eq_true rfl, Nat.le_of_ble_eq_true rfl⟩ dX10_useText_27 dX10_useText_30 dX10_useText_31 dX10_useText_33 dX10_useText_36
def f_X10_governor (q : zq)  (u : zU) : Option (Int32) :=
  (f_X9_firstIn 6 (q 0) (u 6 14) u).bind (fun r1 => some r1)
theorem f_X10_governor_e (q : zq)  (u : zU) : f_X10_governor q u = (f_X9_firstIn 6 (q 0) (u 6 14) u).bind (fun r1 => some r1) := rfl
set_option maxRecDepth 100000 in
set_option maxHeartbeats 4000000 in
theorem c_X10_governor (l : Launch) (D : zD) (A : Nat → Prop) (b : Nat) (G : zG) (q : zq) (hT : zTop G q)  (u : zU) {v : Int32} (h : f_X10_governor q u = some v) : z_M l D A b (zg G q) yX10_governor cX10_governor 1 (some .int) 1 22 [.ref (b + 0)] u (some (.int v)) u := by
  refine z_enter (by decide) (Nat.le_of_ble_eq_true rfl) ?_
  intro p e s m below meth c ls C0 hr hml hlk hW hS hl
  have hl : lv_has ls 1 [(0, .ref (b + 0))] := hl
  have hx := C0.1
  have hb := C0.2.1
  have hs := hT.1
  rw [f_X10_governor_e] at h
  refine lv_aload_n hx hb dX10_governor_0 rfl (lv_at hl 0 rfl) ?_
  refine z_getr (o := 6) C0 hW fl_X10_28 (zk1 (hs 0 (by decide))) rfl (zk3 (hs 0 (by decide)) 2) dX10_governor_1 ?_
  refine lv_aload_n hx hb dX10_governor_4 rfl (lv_at hl 0 rfl) ?_
  refine z_getr (o := 6) C0 hW fl_X10_28 (zk1 (hs 0 (by decide))) rfl (zk3 (hs 0 (by decide)) 2) dX10_governor_5 ?_
  refine z_geti C0 hW fl_X10_211 (zT0 hT).1 rfl dX10_governor_8 ?_
  replace h := z_bd h
  obtain ⟨r1, hq, h⟩ := h
  refine z_cvi (As := [.int (u 6 14)]) C0 hml hl.1 hW hS (c_X9_firstIn l D A b (zg G q) 6 (q 0) (zT0 hT) (u 6 14) u hq) mv_X10_214 (zT0 hT).1 ⟨Nat.le_of_ble_eq_true rfl, Nat.le_of_ble_eq_true rfl⟩ rfl rfl (Nat.le_of_ble_eq_true rfl) dX10_governor_11 (fun H locs hW hS => ?_)
  clear hq
  cases h
  exact z_iret C0 hr hlk hW hS dX10_governor_14
def f_X10_farther (q : zq)  (u : zU) : Option (Int32 × zU) :=
  z_b2 (f_X9_goesFarther 6 (q 0) u) (fun r1 u2 => some (r1, u2))
theorem f_X10_farther_e (q : zq)  (u : zU) : f_X10_farther q u = z_b2 (f_X9_goesFarther 6 (q 0) u) (fun r1 u2 => some (r1, u2)) := rfl
set_option maxRecDepth 100000 in
set_option maxHeartbeats 4000000 in
theorem c_X10_farther (l : Launch) (D : zD) (A : Nat → Prop) (b : Nat) (G : zG) (q : zq) (hT : zTop G q)  (u : zU) {v : Int32} {u' : zU} (h : f_X10_farther q u = some (v, u')) : z_M l D A b (zg G q) yX10_farther cX10_farther 1 (some .int) 4 99 [.ref (b + 0)] u (some (.int v)) u' := by
  refine z_enter (by decide) (Nat.le_of_ble_eq_true rfl) ?_
  intro p e s m below meth c ls C0 hr hml hlk hW hS hl
  have hl : lv_has ls 1 [(0, .ref (b + 0))] := hl
  have hx := C0.1
  have hb := C0.2.1
  have hs := hT.1
  rw [f_X10_farther_e] at h
  refine lv_aload_n hx hb dX10_farther_0 rfl (lv_at hl 0 rfl) ?_
  refine z_getr (o := 6) C0 hW fl_X10_28 (zk1 (hs 0 (by decide))) rfl (zk3 (hs 0 (by decide)) 2) dX10_farther_1 ?_
  replace h := z_bd2 h
  obtain ⟨r1, u2, hq, h⟩ := h
  refine z_cvi (As := []) C0 hml hl.1 hW hS (c_X9_goesFarther l D A b (zg G q) 6 (q 0) (zT0 hT) u hq) mv_X10_217 (zT0 hT).1 ⟨Nat.le_of_ble_eq_true rfl, Nat.le_of_ble_eq_true rfl⟩ rfl rfl (Nat.le_of_ble_eq_true rfl) dX10_farther_4 (fun H locs hW hS => ?_)
  clear hq
  cases h
  exact z_iret C0 hr hlk hW hS dX10_farther_7
def f_X10_room_4 (q : zq) : Nat → Int32 → Int32 → zU → Option (Int32)
  | 0, _, _, _ => none
  | n + 1, x1, x2, u =>
    if (8 : Int32) ≤ x2 then (some x1) else ((f_X9_isOpen 6 (q 0) x2 u).bind (fun t1 => if t1 = true then (z_let (x1 ||| ((1 : Int32) <<< (x2 &&& 31))) (fun z2 => f_X10_room_4 q n z2 (x2 + (1 : Int32)) u)) else (f_X10_room_4 q n x1 (x2 + (1 : Int32)) u)))
theorem f_X10_room_4_s (q : zq) (n : Nat) (x1 : Int32) (x2 : Int32) (u : zU) : f_X10_room_4 q (n + 1) x1 x2 u = if (8 : Int32) ≤ x2 then (some x1) else ((f_X9_isOpen 6 (q 0) x2 u).bind (fun t1 => if t1 = true then (z_let (x1 ||| ((1 : Int32) <<< (x2 &&& 31))) (fun z2 => f_X10_room_4 q n z2 (x2 + (1 : Int32)) u)) else (f_X10_room_4 q n x1 (x2 + (1 : Int32)) u))) := rfl
def f_X10_room (q : zq)  (u : zU) : Option (Int32) :=
  f_X10_room_4 q 5000 (0 : Int32) (0 : Int32) u
set_option maxRecDepth 100000 in
set_option maxHeartbeats 4000000 in
theorem l_X10_room_4 {l : Launch} {D : zD} {A : Nat → Prop} {b : Nat} {p : Program} {e : Env} {s : State} {m : MethodId} {args : Array Value} {below : List Frame} {meth : Method} {c : Code} {G : zG} {q : zq} {v : Int32} {u : zU} (C0 : z_C p c cX10_room s m args yX10_room.cls D A) (hr : meth.sig.returnType = (some .int)) (hml : c.maxLocals = 3) (hlk : meth.locks = false) (hT : zTop G q) : ∀ (n : Nat) (x1 : Int32) (x2 : Int32) (H : Heap) (locs : List Loc) (ls : Array Slot), f_X10_room_4 q n x1 x2 u = some v → z_W D A b (zg G q) u H → va_S A s.heap H locs → lv_has ls 3 [(0, .ref (b + 0)), (1, .int x1), (2, .int x2)] → W p l e { frames := 2, cells := 0, slots := 0, locals := 44 } s m args below meth c H locs 0 0 (z_End D A b (zg G q) below args s (some (.int v)) u) (F0 m 4 ls []) := by
  have hx := C0.1
  have hb := C0.2.1
  have hs := hT.1
  intro n
  induction n with
  | zero => intro x1 x2 H locs ls h hW hS hl; cases h
  | succ n ih =>
    intro x1 x2 H locs ls h hW hS hl
    rw [f_X10_room_4_s] at h
    refine lv_iload_n hx hb dX10_room_4 rfl (lv_at hl 2 rfl) ?_
    refine lv_bipush (v := (8 : Int32)) hx hb dX10_room_5 (by decide) ?_
    refine lv_icmp_ge (tgt := 33) hx hb dX10_room_7 (by decide) (fun hc => ?_) (fun hc => ?_)
    · replace h := z_t h hc
      clear hc
      refine lv_iload_n hx hb dX10_room_33 rfl (lv_at hl 1 rfl) ?_
      cases h
      exact z_iret C0 hr hlk hW hS dX10_room_34
    · replace h := z_f h hc
      clear hc
      refine lv_aload_n hx hb dX10_room_10 rfl (lv_at hl 0 rfl) ?_
      refine z_getr (o := 6) C0 hW fl_X10_28 (zk1 (hs 0 (by decide))) rfl (zk3 (hs 0 (by decide)) 2) dX10_room_11 ?_
      refine lv_iload_n hx hb dX10_room_14 rfl (lv_at hl 2 rfl) ?_
      replace h := z_bd h
      obtain ⟨t1, hq, h⟩ := h
      refine z_cvi (As := [.int x2]) C0 hml hl.1 hW hS (c_X9_isOpen l D A b (zg G q) 6 (q 0) (zT0 hT) x2 u hq) mv_X10_227 (zT0 hT).1 ⟨Nat.le_of_ble_eq_true rfl, Nat.le_of_ble_eq_true rfl⟩ rfl rfl (Nat.le_of_ble_eq_true rfl) dX10_room_15 (fun H locs hW hS => ?_)
      clear hq
      refine z_ifeqZ C0 (tgt := 27) dX10_room_18 (by decide) (fun hc => ?_) (fun hc => ?_)
      · replace h := z_ff h hc
        clear hc
        refine lv_iinc (v := x2 + (1 : Int32)) (lv' := [(2, .int (x2 + (1 : Int32))), (0, .ref (b + 0)), (1, .int x1)]) hx hb dX10_room_27 hl (k := 2) rfl rfl (by decide) rfl (fun ls hl => ?_)
        refine lv_goto (tgt := 4) hx hb dX10_room_30 (by decide) ?_
        exact ih _ _ _ _ _ h hW hS (lv_sub hl [1, 2, 0] rfl)
      · replace h := z_t h hc
        clear hc
        refine lv_iload_n hx hb dX10_room_21 rfl (lv_at hl 1 rfl) ?_
        refine lv_iconst (v := (1 : Int32)) hx hb dX10_room_22 (by decide) ?_
        refine lv_iload_n hx hb dX10_room_23 rfl (lv_at hl 2 rfl) ?_
        refine lv_ishl hx hb dX10_room_24 ?_
        refine lv_ior hx hb dX10_room_25 ?_
        refine lv_topi (fun z2 e1 => ?_)
        replace h := z_ly h e1
        clear e1
        refine lv_istore_n (lv' := [(1, .int z2), (0, .ref (b + 0)), (2, .int x2)]) hx hb dX10_room_26 rfl hl (by decide) rfl (fun ls hl => ?_)
        refine lv_iinc (v := x2 + (1 : Int32)) (lv' := [(2, .int (x2 + (1 : Int32))), (1, .int z2), (0, .ref (b + 0))]) hx hb dX10_room_27 hl (k := 2) rfl rfl (by decide) rfl (fun ls hl => ?_)
        refine lv_goto (tgt := 4) hx hb dX10_room_30 (by decide) ?_
        exact ih _ _ _ _ _ h hW hS (lv_sub hl [2, 1, 0] rfl)
theorem f_X10_room_e (q : zq)  (u : zU) : f_X10_room q u = f_X10_room_4 q 5000 (0 : Int32) (0 : Int32) u := rfl
set_option maxRecDepth 100000 in
set_option maxHeartbeats 4000000 in
theorem c_X10_room (l : Launch) (D : zD) (A : Nat → Prop) (b : Nat) (G : zG) (q : zq) (hT : zTop G q)  (u : zU) {v : Int32} (h : f_X10_room q u = some v) : z_M l D A b (zg G q) yX10_room cX10_room 3 (some .int) 2 44 [.ref (b + 0)] u (some (.int v)) u := by
  refine z_enter (by decide) (Nat.le_of_ble_eq_true rfl) ?_
  intro p e s m below meth c ls C0 hr hml hlk hW hS hl
  have hl : lv_has ls 3 [(0, .ref (b + 0))] := hl
  have hx := C0.1
  have hb := C0.2.1
  have hs := hT.1
  rw [f_X10_room_e] at h
  refine lv_iconst (v := (0 : Int32)) hx hb dX10_room_0 (by decide) ?_
  refine lv_istore_n (lv' := [(1, .int (0 : Int32)), (0, .ref (b + 0))]) hx hb dX10_room_1 rfl hl (by decide) rfl (fun ls hl => ?_)
  refine lv_iconst (v := (0 : Int32)) hx hb dX10_room_2 (by decide) ?_
  refine lv_istore_n (lv' := [(2, .int (0 : Int32)), (1, .int (0 : Int32)), (0, .ref (b + 0))]) hx hb dX10_room_3 rfl hl (by decide) rfl (fun ls hl => ?_)
  exact l_X10_room_4 C0 hr hml hlk hT 5000 _ _ _ _ _ h hW hS (lv_sub hl [2, 1, 0] rfl)
def f_X10_weakest_4 (q : zq) : Nat → Int32 → Int32 → zU → Option (Int32)
  | 0, _, _, _ => none
  | n + 1, x1, x2, u =>
    if (8 : Int32) ≤ x2 then (some x1) else (if z_in x2 8 = true then (z_let (u 12 (x2).toNatClampNeg) (fun z1 => if z_in x1 8 = true then (z_let (u 12 (x1).toNatClampNeg) (fun z2 => if z2 ≤ z1 then (f_X10_weakest_4 q n x1 (x2 + (1 : Int32)) u) else (f_X10_weakest_4 q n x2 (x2 + (1 : Int32)) u))) else none)) else none)
theorem f_X10_weakest_4_s (q : zq) (n : Nat) (x1 : Int32) (x2 : Int32) (u : zU) : f_X10_weakest_4 q (n + 1) x1 x2 u = if (8 : Int32) ≤ x2 then (some x1) else (if z_in x2 8 = true then (z_let (u 12 (x2).toNatClampNeg) (fun z1 => if z_in x1 8 = true then (z_let (u 12 (x1).toNatClampNeg) (fun z2 => if z2 ≤ z1 then (f_X10_weakest_4 q n x1 (x2 + (1 : Int32)) u) else (f_X10_weakest_4 q n x2 (x2 + (1 : Int32)) u))) else none)) else none) := rfl
def f_X10_weakest (q : zq)  (u : zU) : Option (Int32) :=
  f_X10_weakest_4 q 5000 (0 : Int32) (1 : Int32) u
set_option maxRecDepth 100000 in
set_option maxHeartbeats 4000000 in
theorem l_X10_weakest_4 {l : Launch} {D : zD} {A : Nat → Prop} {b : Nat} {p : Program} {e : Env} {s : State} {m : MethodId} {args : Array Value} {below : List Frame} {meth : Method} {c : Code} {G : zG} {q : zq} {v : Int32} {u : zU} (C0 : z_C p c cX10_weakest s m args yX10_weakest.cls D A) (hr : meth.sig.returnType = (some .int)) (hml : c.maxLocals = 3) (hlk : meth.locks = false) (hT : zTop G q) : ∀ (n : Nat) (x1 : Int32) (x2 : Int32) (H : Heap) (locs : List Loc) (ls : Array Slot), f_X10_weakest_4 q n x1 x2 u = some v → z_W D A b (zg G q) u H → va_S A s.heap H locs → lv_has ls 3 [(0, .ref (b + 0)), (1, .int x1), (2, .int x2)] → W p l e { frames := 0, cells := 0, slots := 0, locals := 0 } s m args below meth c H locs 0 0 (z_End D A b (zg G q) below args s (some (.int v)) u) (F0 m 4 ls []) := by
  have hx := C0.1
  have hb := C0.2.1
  have hs := hT.1
  intro n
  induction n with
  | zero => intro x1 x2 H locs ls h hW hS hl; cases h
  | succ n ih =>
    intro x1 x2 H locs ls h hW hS hl
    rw [f_X10_weakest_4_s] at h
    refine lv_iload_n hx hb dX10_weakest_4 rfl (lv_at hl 2 rfl) ?_
    refine lv_bipush (v := (8 : Int32)) hx hb dX10_weakest_5 (by decide) ?_
    refine lv_icmp_ge (tgt := 39) hx hb dX10_weakest_7 (by decide) (fun hc => ?_) (fun hc => ?_)
    · replace h := z_t h hc
      clear hc
      refine lv_iload_n hx hb dX10_weakest_39 rfl (lv_at hl 1 rfl) ?_
      cases h
      exact z_iret C0 hr hlk hW hS dX10_weakest_40
    · replace h := z_f h hc
      clear hc
      refine lv_aload_n hx hb dX10_weakest_10 rfl (lv_at hl 0 rfl) ?_
      refine z_getr (o := 6) C0 hW fl_X10_28 (zk1 (hs 0 (by decide))) rfl (zk3 (hs 0 (by decide)) 2) dX10_weakest_11 ?_
      refine z_getr (o := 12) C0 hW fl_X10_177 (zT0 hT).1 rfl ((zT0 hT).2.1 5 (by decide)).1 dX10_weakest_14 ?_
      refine lv_iload_n hx hb dX10_weakest_17 rfl (lv_at hl 2 rfl) ?_
      replace h := z_if h
      obtain ⟨hin, h⟩ := h
      refine z_iald (n := 8) C0 hW ((zT0 hT).2.1 5 (by decide)).2.1 ((zT0 hT).2.1 5 (by decide)).2.2 hin rfl dX10_weakest_18 ?_
      clear hin
      refine lv_topi (fun z1 e1 => ?_)
      replace h := z_ly h e1
      clear e1
      refine lv_aload_n hx hb dX10_weakest_19 rfl (lv_at hl 0 rfl) ?_
      refine z_getr (o := 6) C0 hW fl_X10_28 (zk1 (hs 0 (by decide))) rfl (zk3 (hs 0 (by decide)) 2) dX10_weakest_20 ?_
      refine z_getr (o := 12) C0 hW fl_X10_177 (zT0 hT).1 rfl ((zT0 hT).2.1 5 (by decide)).1 dX10_weakest_23 ?_
      refine lv_iload_n hx hb dX10_weakest_26 rfl (lv_at hl 1 rfl) ?_
      replace h := z_if h
      obtain ⟨hin, h⟩ := h
      refine z_iald (n := 8) C0 hW ((zT0 hT).2.1 5 (by decide)).2.1 ((zT0 hT).2.1 5 (by decide)).2.2 hin rfl dX10_weakest_27 ?_
      clear hin
      refine lv_topi (fun z2 e1 => ?_)
      replace h := z_ly h e1
      clear e1
      refine lv_icmp_ge (tgt := 33) hx hb dX10_weakest_28 (by decide) (fun hc => ?_) (fun hc => ?_)
      · replace h := z_t h hc
        clear hc
        refine lv_iinc (v := x2 + (1 : Int32)) (lv' := [(2, .int (x2 + (1 : Int32))), (0, .ref (b + 0)), (1, .int x1)]) hx hb dX10_weakest_33 hl (k := 2) rfl rfl (by decide) rfl (fun ls hl => ?_)
        refine lv_goto (tgt := 4) hx hb dX10_weakest_36 (by decide) ?_
        exact ih _ _ _ _ _ h hW hS (lv_sub hl [1, 2, 0] rfl)
      · replace h := z_f h hc
        clear hc
        refine lv_iload_n hx hb dX10_weakest_31 rfl (lv_at hl 2 rfl) ?_
        refine lv_istore_n (lv' := [(1, .int x2), (0, .ref (b + 0)), (2, .int x2)]) hx hb dX10_weakest_32 rfl hl (by decide) rfl (fun ls hl => ?_)
        refine lv_iinc (v := x2 + (1 : Int32)) (lv' := [(2, .int (x2 + (1 : Int32))), (1, .int x2), (0, .ref (b + 0))]) hx hb dX10_weakest_33 hl (k := 2) rfl rfl (by decide) rfl (fun ls hl => ?_)
        refine lv_goto (tgt := 4) hx hb dX10_weakest_36 (by decide) ?_
        exact ih _ _ _ _ _ h hW hS (lv_sub hl [2, 1, 0] rfl)
theorem f_X10_weakest_e (q : zq)  (u : zU) : f_X10_weakest q u = f_X10_weakest_4 q 5000 (0 : Int32) (1 : Int32) u := rfl
set_option maxRecDepth 100000 in
set_option maxHeartbeats 4000000 in
theorem c_X10_weakest (l : Launch) (D : zD) (A : Nat → Prop) (b : Nat) (G : zG) (q : zq) (hT : zTop G q)  (u : zU) {v : Int32} (h : f_X10_weakest q u = some v) : z_M l D A b (zg G q) yX10_weakest cX10_weakest 3 (some .int) 0 0 [.ref (b + 0)] u (some (.int v)) u := by
  refine z_enter (by decide) (Nat.le_of_ble_eq_true rfl) ?_
  intro p e s m below meth c ls C0 hr hml hlk hW hS hl
  have hl : lv_has ls 3 [(0, .ref (b + 0))] := hl
  have hx := C0.1
  have hb := C0.2.1
  have hs := hT.1
  rw [f_X10_weakest_e] at h
  refine lv_iconst (v := (0 : Int32)) hx hb dX10_weakest_0 (by decide) ?_
  refine lv_istore_n (lv' := [(1, .int (0 : Int32)), (0, .ref (b + 0))]) hx hb dX10_weakest_1 rfl hl (by decide) rfl (fun ls hl => ?_)
  refine lv_iconst (v := (1 : Int32)) hx hb dX10_weakest_2 (by decide) ?_
  refine lv_istore_n (lv' := [(2, .int (1 : Int32)), (1, .int (0 : Int32)), (0, .ref (b + 0))]) hx hb dX10_weakest_3 rfl hl (by decide) rfl (fun ls hl => ?_)
  exact l_X10_weakest_4 C0 hr hml hlk hT 5000 _ _ _ _ _ h hW hS (lv_sub hl [2, 1, 0] rfl)
def f_X10_levelWith_15 (q : zq) : Nat → Int32 → Int32 → Int32 → Int32 → zU → Option (Int32)
  | 0, _, _, _, _, _ => none
  | n + 1, x1, x2, x3, x4, u =>
    if x2 = (-1 : Int32) then (some x3) else (if (u 6 8) ≤ x4 then (some x3) else (if z_in x4 8 = true then (z_let (u 7 (x4).toNatClampNeg) (fun z2 => if x4 = x1 then (f_X10_levelWith_15 q n x1 x2 x3 (x4 + (1 : Int32)) u) else (if z2 = (-1 : Int32) then (f_X10_levelWith_15 q n x1 x2 x3 (x4 + (1 : Int32)) u) else (z_let (f_X9_height 6 (q 0) z2 u) (fun r3 => z_let (f_X9_height 6 (q 0) x2 u) (fun r4 => if r3 = r4 then (z_let (x3 ||| ((1 : Int32) <<< (x4 &&& 31))) (fun z5 => f_X10_levelWith_15 q n x1 x2 z5 (x4 + (1 : Int32)) u)) else (f_X10_levelWith_15 q n x1 x2 x3 (x4 + (1 : Int32)) u))))))) else none))
theorem f_X10_levelWith_15_s (q : zq) (n : Nat) (x1 : Int32) (x2 : Int32) (x3 : Int32) (x4 : Int32) (u : zU) : f_X10_levelWith_15 q (n + 1) x1 x2 x3 x4 u = if x2 = (-1 : Int32) then (some x3) else (if (u 6 8) ≤ x4 then (some x3) else (if z_in x4 8 = true then (z_let (u 7 (x4).toNatClampNeg) (fun z2 => if x4 = x1 then (f_X10_levelWith_15 q n x1 x2 x3 (x4 + (1 : Int32)) u) else (if z2 = (-1 : Int32) then (f_X10_levelWith_15 q n x1 x2 x3 (x4 + (1 : Int32)) u) else (z_let (f_X9_height 6 (q 0) z2 u) (fun r3 => z_let (f_X9_height 6 (q 0) x2 u) (fun r4 => if r3 = r4 then (z_let (x3 ||| ((1 : Int32) <<< (x4 &&& 31))) (fun z5 => f_X10_levelWith_15 q n x1 x2 z5 (x4 + (1 : Int32)) u)) else (f_X10_levelWith_15 q n x1 x2 x3 (x4 + (1 : Int32)) u))))))) else none)) := rfl
def f_X10_levelWith (q : zq) (a1 : Int32) (u : zU) : Option (Int32) :=
  if z_in a1 8 = true then (z_let (u 7 (a1).toNatClampNeg) (fun z1 => f_X10_levelWith_15 q 5000 a1 z1 (0 : Int32) (0 : Int32) u)) else none
set_option maxRecDepth 100000 in
set_option maxHeartbeats 4000000 in
theorem l_X10_levelWith_15 {l : Launch} {D : zD} {A : Nat → Prop} {b : Nat} {p : Program} {e : Env} {s : State} {m : MethodId} {args : Array Value} {below : List Frame} {meth : Method} {c : Code} {G : zG} {q : zq} {v : Int32} {u : zU} (C0 : z_C p c cX10_levelWith s m args yX10_levelWith.cls D A) (hr : meth.sig.returnType = (some .int)) (hml : c.maxLocals = 6) (hlk : meth.locks = false) (hT : zTop G q) : ∀ (n : Nat) (x1 : Int32) (x2 : Int32) (x3 : Int32) (x4 : Int32) (H : Heap) (locs : List Loc) (ls : Array Slot), f_X10_levelWith_15 q n x1 x2 x3 x4 u = some v → z_W D A b (zg G q) u H → va_S A s.heap H locs → lv_has ls 6 [(0, .ref (b + 0)), (1, .int x1), (2, .int x2), (3, .int x3), (4, .int x4)] → W p l e { frames := 2, cells := 0, slots := 0, locals := 42 } s m args below meth c H locs 0 0 (z_End D A b (zg G q) below args s (some (.int v)) u) (F0 m 15 ls []) := by
  have hx := C0.1
  have hb := C0.2.1
  have hs := hT.1
  intro n
  induction n with
  | zero => intro x1 x2 x3 x4 H locs ls h hW hS hl; cases h
  | succ n ih =>
    intro x1 x2 x3 x4 H locs ls h hW hS hl
    rw [f_X10_levelWith_15_s] at h
    refine lv_iload_n hx hb dX10_levelWith_15 rfl (lv_at hl 2 rfl) ?_
    refine lv_iconst (v := (-1 : Int32)) hx hb dX10_levelWith_16 (by decide) ?_
    refine lv_icmp_eq (tgt := 89) hx hb dX10_levelWith_17 (by decide) (fun hc => ?_) (fun hc => ?_)
    · replace h := z_t h hc
      clear hc
      refine lv_iload_n hx hb dX10_levelWith_89 rfl (lv_at hl 3 rfl) ?_
      cases h
      exact z_iret C0 hr hlk hW hS dX10_levelWith_90
    · replace h := z_f h hc
      clear hc
      refine lv_iload hx hb dX10_levelWith_20 (lv_at hl 4 rfl) ?_
      refine lv_aload_n hx hb dX10_levelWith_22 rfl (lv_at hl 0 rfl) ?_
      refine z_getr (o := 6) C0 hW fl_X10_28 (zk1 (hs 0 (by decide))) rfl (zk3 (hs 0 (by decide)) 2) dX10_levelWith_23 ?_
      refine z_geti C0 hW fl_X10_221 (zT0 hT).1 rfl dX10_levelWith_26 ?_
      refine lv_icmp_ge (tgt := 89) hx hb dX10_levelWith_29 (by decide) (fun hc => ?_) (fun hc => ?_)
      · replace h := z_t h hc
        clear hc
        refine lv_iload_n hx hb dX10_levelWith_89 rfl (lv_at hl 3 rfl) ?_
        cases h
        exact z_iret C0 hr hlk hW hS dX10_levelWith_90
      · replace h := z_f h hc
        clear hc
        refine lv_aload_n hx hb dX10_levelWith_32 rfl (lv_at hl 0 rfl) ?_
        refine z_getr (o := 6) C0 hW fl_X10_28 (zk1 (hs 0 (by decide))) rfl (zk3 (hs 0 (by decide)) 2) dX10_levelWith_33 ?_
        refine z_getr (o := 7) C0 hW fl_X10_139 (zT0 hT).1 rfl ((zT0 hT).2.1 0 (by decide)).1 dX10_levelWith_36 ?_
        refine lv_iload hx hb dX10_levelWith_39 (lv_at hl 4 rfl) ?_
        replace h := z_if h
        obtain ⟨hin, h⟩ := h
        refine z_iald (n := 8) C0 hW ((zT0 hT).2.1 0 (by decide)).2.1 ((zT0 hT).2.1 0 (by decide)).2.2 hin rfl dX10_levelWith_41 ?_
        clear hin
        refine lv_topi (fun z2 e1 => ?_)
        replace h := z_ly h e1
        clear e1
        refine lv_istore (lv' := [(5, .int z2), (0, .ref (b + 0)), (1, .int x1), (2, .int x2), (3, .int x3), (4, .int x4)]) hx hb dX10_levelWith_42 hl (by decide) rfl (fun ls hl => ?_)
        refine lv_iload hx hb dX10_levelWith_44 (lv_at hl 5 rfl) ?_
        refine lv_iload_n hx hb dX10_levelWith_46 rfl (lv_at hl 2 rfl) ?_
        refine lv_icmp_eq (tgt := 83) hx hb dX10_levelWith_47 (by decide) (fun hc => ?_) (fun hc => ?_)
        · replace h := z_t h hc
          clear hc
          refine lv_iinc (v := x4 + (1 : Int32)) (lv' := [(4, .int (x4 + (1 : Int32))), (5, .int z2), (0, .ref (b + 0)), (1, .int x1), (2, .int x2), (3, .int x3)]) hx hb dX10_levelWith_83 hl (k := 5) rfl rfl (by decide) rfl (fun ls hl => ?_)
          refine lv_goto (tgt := 15) hx hb dX10_levelWith_86 (by decide) ?_
          exact ih _ _ _ _ _ _ _ h hW hS (lv_sub hl [2, 3, 4, 5, 0] rfl)
        · replace h := z_f h hc
          clear hc
          refine lv_iload hx hb dX10_levelWith_50 (lv_at hl 0 rfl) ?_
          refine lv_iconst (v := (-1 : Int32)) hx hb dX10_levelWith_52 (by decide) ?_
          refine lv_icmp_eq (tgt := 83) hx hb dX10_levelWith_53 (by decide) (fun hc => ?_) (fun hc => ?_)
          · replace h := z_t h hc
            clear hc
            refine lv_iinc (v := x4 + (1 : Int32)) (lv' := [(4, .int (x4 + (1 : Int32))), (5, .int z2), (0, .ref (b + 0)), (1, .int x1), (2, .int x2), (3, .int x3)]) hx hb dX10_levelWith_83 hl (k := 5) rfl rfl (by decide) rfl (fun ls hl => ?_)
            refine lv_goto (tgt := 15) hx hb dX10_levelWith_86 (by decide) ?_
            exact ih _ _ _ _ _ _ _ h hW hS (lv_sub hl [2, 3, 4, 5, 0] rfl)
          · replace h := z_f h hc
            clear hc
            refine lv_aload_n hx hb dX10_levelWith_56 rfl (lv_at hl 1 rfl) ?_
            refine z_getr (o := 6) C0 hW fl_X10_28 (zk1 (hs 0 (by decide))) rfl (zk3 (hs 0 (by decide)) 2) dX10_levelWith_57 ?_
            refine lv_iload hx hb dX10_levelWith_60 (lv_at hl 0 rfl) ?_
            obtain ⟨r3, hq⟩ : ∃ y, f_X9_height 6 (q 0) z2 u = y := ⟨_, rfl⟩
            replace h := z_lz h hq
            refine z_cvi (As := [.int z2]) C0 hml hl.1 hW hS (c_X9_height l D A b (zg G q) 6 (q 0) (zT0 hT) z2 u hq) mv_X10_159 (zT0 hT).1 ⟨Nat.le_of_ble_eq_true rfl, Nat.le_of_ble_eq_true rfl⟩ rfl rfl (Nat.le_of_ble_eq_true rfl) dX10_levelWith_62 (fun H locs hW hS => ?_)
            clear hq
            refine lv_aload_n hx hb dX10_levelWith_65 rfl (lv_at hl 1 rfl) ?_
            refine z_getr (o := 6) C0 hW fl_X10_28 (zk1 (hs 0 (by decide))) rfl (zk3 (hs 0 (by decide)) 2) dX10_levelWith_66 ?_
            refine lv_iload_n hx hb dX10_levelWith_69 rfl (lv_at hl 3 rfl) ?_
            obtain ⟨r4, hq⟩ : ∃ y, f_X9_height 6 (q 0) x2 u = y := ⟨_, rfl⟩
            replace h := z_lz h hq
            refine z_cvi (As := [.int x2]) C0 hml hl.1 hW hS (c_X9_height l D A b (zg G q) 6 (q 0) (zT0 hT) x2 u hq) mv_X10_159 (zT0 hT).1 ⟨Nat.le_of_ble_eq_true rfl, Nat.le_of_ble_eq_true rfl⟩ rfl rfl (Nat.le_of_ble_eq_true rfl) dX10_levelWith_70 (fun H locs hW hS => ?_)
            clear hq
            refine lv_icmp_ne (tgt := 83) hx hb dX10_levelWith_73 (by decide) (fun hc => ?_) (fun hc => ?_)
            · replace h := z_f h hc
              clear hc
              refine lv_iinc (v := x4 + (1 : Int32)) (lv' := [(4, .int (x4 + (1 : Int32))), (5, .int z2), (0, .ref (b + 0)), (1, .int x1), (2, .int x2), (3, .int x3)]) hx hb dX10_levelWith_83 hl (k := 5) rfl rfl (by decide) rfl (fun ls hl => ?_)
              refine lv_goto (tgt := 15) hx hb dX10_levelWith_86 (by decide) ?_
              exact ih _ _ _ _ _ _ _ h hW hS (lv_sub hl [2, 3, 4, 5, 0] rfl)
            · replace h := z_t h hc
              clear hc
              refine lv_iload_n hx hb dX10_levelWith_76 rfl (lv_at hl 4 rfl) ?_
              refine lv_iconst (v := (1 : Int32)) hx hb dX10_levelWith_77 (by decide) ?_
              refine lv_iload hx hb dX10_levelWith_78 (lv_at hl 5 rfl) ?_
              refine lv_ishl hx hb dX10_levelWith_80 ?_
              refine lv_ior hx hb dX10_levelWith_81 ?_
              refine lv_topi (fun z5 e1 => ?_)
              replace h := z_ly h e1
              clear e1
              refine lv_istore_n (lv' := [(3, .int z5), (5, .int z2), (0, .ref (b + 0)), (1, .int x1), (2, .int x2), (4, .int x4)]) hx hb dX10_levelWith_82 rfl hl (by decide) rfl (fun ls hl => ?_)
              refine lv_iinc (v := x4 + (1 : Int32)) (lv' := [(4, .int (x4 + (1 : Int32))), (3, .int z5), (5, .int z2), (0, .ref (b + 0)), (1, .int x1), (2, .int x2)]) hx hb dX10_levelWith_83 hl (k := 5) rfl rfl (by decide) rfl (fun ls hl => ?_)
              refine lv_goto (tgt := 15) hx hb dX10_levelWith_86 (by decide) ?_
              exact ih _ _ _ _ _ _ _ h hW hS (lv_sub hl [3, 4, 5, 1, 0] rfl)
theorem f_X10_levelWith_e (q : zq) (a1 : Int32) (u : zU) : f_X10_levelWith q a1 u = if z_in a1 8 = true then (z_let (u 7 (a1).toNatClampNeg) (fun z1 => f_X10_levelWith_15 q 5000 a1 z1 (0 : Int32) (0 : Int32) u)) else none := rfl
set_option maxRecDepth 100000 in
set_option maxHeartbeats 4000000 in
theorem c_X10_levelWith (l : Launch) (D : zD) (A : Nat → Prop) (b : Nat) (G : zG) (q : zq) (hT : zTop G q) (a1 : Int32) (u : zU) {v : Int32} (h : f_X10_levelWith q a1 u = some v) : z_M l D A b (zg G q) yX10_levelWith cX10_levelWith 6 (some .int) 2 42 [.ref (b + 0), .int a1] u (some (.int v)) u := by
  refine z_enter (by decide) (Nat.le_of_ble_eq_true rfl) ?_
  intro p e s m below meth c ls C0 hr hml hlk hW hS hl
  have hl : lv_has ls 6 [(0, .ref (b + 0)), (1, .int a1)] := hl
  have hx := C0.1
  have hb := C0.2.1
  have hs := hT.1
  rw [f_X10_levelWith_e] at h
  refine lv_aload_n hx hb dX10_levelWith_0 rfl (lv_at hl 0 rfl) ?_
  refine z_getr (o := 6) C0 hW fl_X10_28 (zk1 (hs 0 (by decide))) rfl (zk3 (hs 0 (by decide)) 2) dX10_levelWith_1 ?_
  refine z_getr (o := 7) C0 hW fl_X10_139 (zT0 hT).1 rfl ((zT0 hT).2.1 0 (by decide)).1 dX10_levelWith_4 ?_
  refine lv_iload_n hx hb dX10_levelWith_7 rfl (lv_at hl 1 rfl) ?_
  replace h := z_if h
  obtain ⟨hin, h⟩ := h
  refine z_iald (n := 8) C0 hW ((zT0 hT).2.1 0 (by decide)).2.1 ((zT0 hT).2.1 0 (by decide)).2.2 hin rfl dX10_levelWith_8 ?_
  clear hin
  refine lv_topi (fun z1 e1 => ?_)
  replace h := z_ly h e1
  clear e1
  refine lv_istore_n (lv' := [(2, .int z1), (0, .ref (b + 0)), (1, .int a1)]) hx hb dX10_levelWith_9 rfl hl (by decide) rfl (fun ls hl => ?_)
  refine lv_iconst (v := (0 : Int32)) hx hb dX10_levelWith_10 (by decide) ?_
  refine lv_istore_n (lv' := [(3, .int (0 : Int32)), (2, .int z1), (0, .ref (b + 0)), (1, .int a1)]) hx hb dX10_levelWith_11 rfl hl (by decide) rfl (fun ls hl => ?_)
  refine lv_iconst (v := (0 : Int32)) hx hb dX10_levelWith_12 (by decide) ?_
  refine lv_istore (lv' := [(4, .int (0 : Int32)), (3, .int (0 : Int32)), (2, .int z1), (0, .ref (b + 0)), (1, .int a1)]) hx hb dX10_levelWith_13 hl (by decide) rfl (fun ls hl => ?_)
  exact l_X10_levelWith_15 C0 hr hml hlk hT 5000 _ _ _ _ _ _ _ h hW hS (lv_sub hl [3, 4, 2, 1, 0] rfl)
def f_X10_ridersOf_4 (q : zq) : Nat → Int32 → Int32 → Int32 → zU → Option (Int32)
  | 0, _, _, _, _ => none
  | n + 1, x1, x2, x3, u =>
    if (u 6 8) ≤ x3 then (some x2) else (if z_in x3 8 = true then (z_let (u 10 (x3).toNatClampNeg) (fun z1 => if ((x1 >>> (z1 &&& 31)) &&& (1 : Int32)) = (1 : Int32) then (z_let (x2 ||| ((1 : Int32) <<< (x3 &&& 31))) (fun z2 => f_X10_ridersOf_4 q n x1 z2 (x3 + (1 : Int32)) u)) else (f_X10_ridersOf_4 q n x1 x2 (x3 + (1 : Int32)) u))) else none)
theorem f_X10_ridersOf_4_s (q : zq) (n : Nat) (x1 : Int32) (x2 : Int32) (x3 : Int32) (u : zU) : f_X10_ridersOf_4 q (n + 1) x1 x2 x3 u = if (u 6 8) ≤ x3 then (some x2) else (if z_in x3 8 = true then (z_let (u 10 (x3).toNatClampNeg) (fun z1 => if ((x1 >>> (z1 &&& 31)) &&& (1 : Int32)) = (1 : Int32) then (z_let (x2 ||| ((1 : Int32) <<< (x3 &&& 31))) (fun z2 => f_X10_ridersOf_4 q n x1 z2 (x3 + (1 : Int32)) u)) else (f_X10_ridersOf_4 q n x1 x2 (x3 + (1 : Int32)) u))) else none) := rfl
def f_X10_ridersOf (q : zq) (a1 : Int32) (u : zU) : Option (Int32) :=
  f_X10_ridersOf_4 q 5000 a1 (0 : Int32) (0 : Int32) u
set_option maxRecDepth 100000 in
set_option maxHeartbeats 4000000 in
theorem l_X10_ridersOf_4 {l : Launch} {D : zD} {A : Nat → Prop} {b : Nat} {p : Program} {e : Env} {s : State} {m : MethodId} {args : Array Value} {below : List Frame} {meth : Method} {c : Code} {G : zG} {q : zq} {v : Int32} {u : zU} (C0 : z_C p c cX10_ridersOf s m args yX10_ridersOf.cls D A) (hr : meth.sig.returnType = (some .int)) (hml : c.maxLocals = 4) (hlk : meth.locks = false) (hT : zTop G q) : ∀ (n : Nat) (x1 : Int32) (x2 : Int32) (x3 : Int32) (H : Heap) (locs : List Loc) (ls : Array Slot), f_X10_ridersOf_4 q n x1 x2 x3 u = some v → z_W D A b (zg G q) u H → va_S A s.heap H locs → lv_has ls 4 [(0, .ref (b + 0)), (1, .int x1), (2, .int x2), (3, .int x3)] → W p l e { frames := 0, cells := 0, slots := 0, locals := 0 } s m args below meth c H locs 0 0 (z_End D A b (zg G q) below args s (some (.int v)) u) (F0 m 4 ls []) := by
  have hx := C0.1
  have hb := C0.2.1
  have hs := hT.1
  intro n
  induction n with
  | zero => intro x1 x2 x3 H locs ls h hW hS hl; cases h
  | succ n ih =>
    intro x1 x2 x3 H locs ls h hW hS hl
    rw [f_X10_ridersOf_4_s] at h
    refine lv_iload_n hx hb dX10_ridersOf_4 rfl (lv_at hl 3 rfl) ?_
    refine lv_aload_n hx hb dX10_ridersOf_5 rfl (lv_at hl 0 rfl) ?_
    refine z_getr (o := 6) C0 hW fl_X10_28 (zk1 (hs 0 (by decide))) rfl (zk3 (hs 0 (by decide)) 2) dX10_ridersOf_6 ?_
    refine z_geti C0 hW fl_X10_221 (zT0 hT).1 rfl dX10_ridersOf_9 ?_
    refine lv_icmp_ge (tgt := 44) hx hb dX10_ridersOf_12 (by decide) (fun hc => ?_) (fun hc => ?_)
    · replace h := z_t h hc
      clear hc
      refine lv_iload_n hx hb dX10_ridersOf_44 rfl (lv_at hl 2 rfl) ?_
      cases h
      exact z_iret C0 hr hlk hW hS dX10_ridersOf_45
    · replace h := z_f h hc
      clear hc
      refine lv_iload_n hx hb dX10_ridersOf_15 rfl (lv_at hl 1 rfl) ?_
      refine lv_aload_n hx hb dX10_ridersOf_16 rfl (lv_at hl 0 rfl) ?_
      refine z_getr (o := 6) C0 hW fl_X10_28 (zk1 (hs 0 (by decide))) rfl (zk3 (hs 0 (by decide)) 2) dX10_ridersOf_17 ?_
      refine z_getr (o := 10) C0 hW fl_X10_149 (zT0 hT).1 rfl ((zT0 hT).2.1 3 (by decide)).1 dX10_ridersOf_20 ?_
      refine lv_iload_n hx hb dX10_ridersOf_23 rfl (lv_at hl 3 rfl) ?_
      replace h := z_if h
      obtain ⟨hin, h⟩ := h
      refine z_iald (n := 8) C0 hW ((zT0 hT).2.1 3 (by decide)).2.1 ((zT0 hT).2.1 3 (by decide)).2.2 hin rfl dX10_ridersOf_24 ?_
      clear hin
      refine lv_topi (fun z1 e1 => ?_)
      replace h := z_ly h e1
      clear e1
      refine lv_ishr hx hb dX10_ridersOf_25 ?_
      refine lv_iconst (v := (1 : Int32)) hx hb dX10_ridersOf_26 (by decide) ?_
      refine lv_iand hx hb dX10_ridersOf_27 ?_
      refine lv_iconst (v := (1 : Int32)) hx hb dX10_ridersOf_28 (by decide) ?_
      refine lv_icmp_ne (tgt := 38) hx hb dX10_ridersOf_29 (by decide) (fun hc => ?_) (fun hc => ?_)
      · replace h := z_f h hc
        clear hc
        refine lv_iinc (v := x3 + (1 : Int32)) (lv' := [(3, .int (x3 + (1 : Int32))), (0, .ref (b + 0)), (1, .int x1), (2, .int x2)]) hx hb dX10_ridersOf_38 hl (k := 3) rfl rfl (by decide) rfl (fun ls hl => ?_)
        refine lv_goto (tgt := 4) hx hb dX10_ridersOf_41 (by decide) ?_
        exact ih _ _ _ _ _ _ h hW hS (lv_sub hl [1, 2, 3, 0] rfl)
      · replace h := z_t h hc
        clear hc
        refine lv_iload_n hx hb dX10_ridersOf_32 rfl (lv_at hl 2 rfl) ?_
        refine lv_iconst (v := (1 : Int32)) hx hb dX10_ridersOf_33 (by decide) ?_
        refine lv_iload_n hx hb dX10_ridersOf_34 rfl (lv_at hl 3 rfl) ?_
        refine lv_ishl hx hb dX10_ridersOf_35 ?_
        refine lv_ior hx hb dX10_ridersOf_36 ?_
        refine lv_topi (fun z2 e1 => ?_)
        replace h := z_ly h e1
        clear e1
        refine lv_istore_n (lv' := [(2, .int z2), (0, .ref (b + 0)), (1, .int x1), (3, .int x3)]) hx hb dX10_ridersOf_37 rfl hl (by decide) rfl (fun ls hl => ?_)
        refine lv_iinc (v := x3 + (1 : Int32)) (lv' := [(3, .int (x3 + (1 : Int32))), (2, .int z2), (0, .ref (b + 0)), (1, .int x1)]) hx hb dX10_ridersOf_38 hl (k := 3) rfl rfl (by decide) rfl (fun ls hl => ?_)
        refine lv_goto (tgt := 4) hx hb dX10_ridersOf_41 (by decide) ?_
        exact ih _ _ _ _ _ _ h hW hS (lv_sub hl [2, 3, 1, 0] rfl)
theorem f_X10_ridersOf_e (q : zq) (a1 : Int32) (u : zU) : f_X10_ridersOf q a1 u = f_X10_ridersOf_4 q 5000 a1 (0 : Int32) (0 : Int32) u := rfl
set_option maxRecDepth 100000 in
set_option maxHeartbeats 4000000 in
theorem c_X10_ridersOf (l : Launch) (D : zD) (A : Nat → Prop) (b : Nat) (G : zG) (q : zq) (hT : zTop G q) (a1 : Int32) (u : zU) {v : Int32} (h : f_X10_ridersOf q a1 u = some v) : z_M l D A b (zg G q) yX10_ridersOf cX10_ridersOf 4 (some .int) 0 0 [.ref (b + 0), .int a1] u (some (.int v)) u := by
  refine z_enter (by decide) (Nat.le_of_ble_eq_true rfl) ?_
  intro p e s m below meth c ls C0 hr hml hlk hW hS hl
  have hl : lv_has ls 4 [(0, .ref (b + 0)), (1, .int a1)] := hl
  have hx := C0.1
  have hb := C0.2.1
  have hs := hT.1
  rw [f_X10_ridersOf_e] at h
  refine lv_iconst (v := (0 : Int32)) hx hb dX10_ridersOf_0 (by decide) ?_
  refine lv_istore_n (lv' := [(2, .int (0 : Int32)), (0, .ref (b + 0)), (1, .int a1)]) hx hb dX10_ridersOf_1 rfl hl (by decide) rfl (fun ls hl => ?_)
  refine lv_iconst (v := (0 : Int32)) hx hb dX10_ridersOf_2 (by decide) ?_
  refine lv_istore_n (lv' := [(3, .int (0 : Int32)), (2, .int (0 : Int32)), (0, .ref (b + 0)), (1, .int a1)]) hx hb dX10_ridersOf_3 rfl hl (by decide) rfl (fun ls hl => ?_)
  exact l_X10_ridersOf_4 C0 hr hml hlk hT 5000 _ _ _ _ _ _ h hW hS (lv_sub hl [2, 3, 1, 0] rfl)
def f_X10_weightOf_4 (q : zq) : Nat → Int32 → Int32 → Int32 → zU → Option (Int32)
  | 0, _, _, _, _ => none
  | n + 1, x1, x2, x3, u =>
    if (u 6 8) ≤ x3 then (some x2) else (if ((x1 >>> (x3 &&& 31)) &&& (1 : Int32)) = (1 : Int32) then (if z_in x3 8 = true then (z_let (u 8 (x3).toNatClampNeg) (fun z1 => z_let (x2 + z1) (fun z2 => f_X10_weightOf_4 q n x1 z2 (x3 + (1 : Int32)) u))) else none) else (f_X10_weightOf_4 q n x1 x2 (x3 + (1 : Int32)) u))
theorem f_X10_weightOf_4_s (q : zq) (n : Nat) (x1 : Int32) (x2 : Int32) (x3 : Int32) (u : zU) : f_X10_weightOf_4 q (n + 1) x1 x2 x3 u = if (u 6 8) ≤ x3 then (some x2) else (if ((x1 >>> (x3 &&& 31)) &&& (1 : Int32)) = (1 : Int32) then (if z_in x3 8 = true then (z_let (u 8 (x3).toNatClampNeg) (fun z1 => z_let (x2 + z1) (fun z2 => f_X10_weightOf_4 q n x1 z2 (x3 + (1 : Int32)) u))) else none) else (f_X10_weightOf_4 q n x1 x2 (x3 + (1 : Int32)) u)) := rfl
def f_X10_weightOf (q : zq) (a1 : Int32) (u : zU) : Option (Int32) :=
  f_X10_weightOf_4 q 5000 a1 (0 : Int32) (0 : Int32) u
set_option maxRecDepth 100000 in
set_option maxHeartbeats 4000000 in
theorem l_X10_weightOf_4 {l : Launch} {D : zD} {A : Nat → Prop} {b : Nat} {p : Program} {e : Env} {s : State} {m : MethodId} {args : Array Value} {below : List Frame} {meth : Method} {c : Code} {G : zG} {q : zq} {v : Int32} {u : zU} (C0 : z_C p c cX10_weightOf s m args yX10_weightOf.cls D A) (hr : meth.sig.returnType = (some .int)) (hml : c.maxLocals = 4) (hlk : meth.locks = false) (hT : zTop G q) : ∀ (n : Nat) (x1 : Int32) (x2 : Int32) (x3 : Int32) (H : Heap) (locs : List Loc) (ls : Array Slot), f_X10_weightOf_4 q n x1 x2 x3 u = some v → z_W D A b (zg G q) u H → va_S A s.heap H locs → lv_has ls 4 [(0, .ref (b + 0)), (1, .int x1), (2, .int x2), (3, .int x3)] → W p l e { frames := 0, cells := 0, slots := 0, locals := 0 } s m args below meth c H locs 0 0 (z_End D A b (zg G q) below args s (some (.int v)) u) (F0 m 4 ls []) := by
  have hx := C0.1
  have hb := C0.2.1
  have hs := hT.1
  intro n
  induction n with
  | zero => intro x1 x2 x3 H locs ls h hW hS hl; cases h
  | succ n ih =>
    intro x1 x2 x3 H locs ls h hW hS hl
    rw [f_X10_weightOf_4_s] at h
    refine lv_iload_n hx hb dX10_weightOf_4 rfl (lv_at hl 3 rfl) ?_
    refine lv_aload_n hx hb dX10_weightOf_5 rfl (lv_at hl 0 rfl) ?_
    refine z_getr (o := 6) C0 hW fl_X10_28 (zk1 (hs 0 (by decide))) rfl (zk3 (hs 0 (by decide)) 2) dX10_weightOf_6 ?_
    refine z_geti C0 hW fl_X10_221 (zT0 hT).1 rfl dX10_weightOf_9 ?_
    refine lv_icmp_ge (tgt := 42) hx hb dX10_weightOf_12 (by decide) (fun hc => ?_) (fun hc => ?_)
    · replace h := z_t h hc
      clear hc
      refine lv_iload_n hx hb dX10_weightOf_42 rfl (lv_at hl 2 rfl) ?_
      cases h
      exact z_iret C0 hr hlk hW hS dX10_weightOf_43
    · replace h := z_f h hc
      clear hc
      refine lv_iload_n hx hb dX10_weightOf_15 rfl (lv_at hl 1 rfl) ?_
      refine lv_iload_n hx hb dX10_weightOf_16 rfl (lv_at hl 3 rfl) ?_
      refine lv_ishr hx hb dX10_weightOf_17 ?_
      refine lv_iconst (v := (1 : Int32)) hx hb dX10_weightOf_18 (by decide) ?_
      refine lv_iand hx hb dX10_weightOf_19 ?_
      refine lv_iconst (v := (1 : Int32)) hx hb dX10_weightOf_20 (by decide) ?_
      refine lv_icmp_ne (tgt := 36) hx hb dX10_weightOf_21 (by decide) (fun hc => ?_) (fun hc => ?_)
      · replace h := z_f h hc
        clear hc
        refine lv_iinc (v := x3 + (1 : Int32)) (lv' := [(3, .int (x3 + (1 : Int32))), (0, .ref (b + 0)), (1, .int x1), (2, .int x2)]) hx hb dX10_weightOf_36 hl (k := 3) rfl rfl (by decide) rfl (fun ls hl => ?_)
        refine lv_goto (tgt := 4) hx hb dX10_weightOf_39 (by decide) ?_
        exact ih _ _ _ _ _ _ h hW hS (lv_sub hl [1, 2, 3, 0] rfl)
      · replace h := z_t h hc
        clear hc
        refine lv_iload_n hx hb dX10_weightOf_24 rfl (lv_at hl 2 rfl) ?_
        refine lv_aload_n hx hb dX10_weightOf_25 rfl (lv_at hl 0 rfl) ?_
        refine z_getr (o := 6) C0 hW fl_X10_28 (zk1 (hs 0 (by decide))) rfl (zk3 (hs 0 (by decide)) 2) dX10_weightOf_26 ?_
        refine z_getr (o := 8) C0 hW fl_X10_143 (zT0 hT).1 rfl ((zT0 hT).2.1 1 (by decide)).1 dX10_weightOf_29 ?_
        refine lv_iload_n hx hb dX10_weightOf_32 rfl (lv_at hl 3 rfl) ?_
        replace h := z_if h
        obtain ⟨hin, h⟩ := h
        refine z_iald (n := 8) C0 hW ((zT0 hT).2.1 1 (by decide)).2.1 ((zT0 hT).2.1 1 (by decide)).2.2 hin rfl dX10_weightOf_33 ?_
        clear hin
        refine lv_topi (fun z1 e1 => ?_)
        replace h := z_ly h e1
        clear e1
        refine lv_iadd hx hb dX10_weightOf_34 ?_
        refine lv_topi (fun z2 e1 => ?_)
        replace h := z_ly h e1
        clear e1
        refine lv_istore_n (lv' := [(2, .int z2), (0, .ref (b + 0)), (1, .int x1), (3, .int x3)]) hx hb dX10_weightOf_35 rfl hl (by decide) rfl (fun ls hl => ?_)
        refine lv_iinc (v := x3 + (1 : Int32)) (lv' := [(3, .int (x3 + (1 : Int32))), (2, .int z2), (0, .ref (b + 0)), (1, .int x1)]) hx hb dX10_weightOf_36 hl (k := 3) rfl rfl (by decide) rfl (fun ls hl => ?_)
        refine lv_goto (tgt := 4) hx hb dX10_weightOf_39 (by decide) ?_
        exact ih _ _ _ _ _ _ h hW hS (lv_sub hl [2, 3, 1, 0] rfl)
theorem f_X10_weightOf_e (q : zq) (a1 : Int32) (u : zU) : f_X10_weightOf q a1 u = f_X10_weightOf_4 q 5000 a1 (0 : Int32) (0 : Int32) u := rfl
set_option maxRecDepth 100000 in
set_option maxHeartbeats 4000000 in
theorem c_X10_weightOf (l : Launch) (D : zD) (A : Nat → Prop) (b : Nat) (G : zG) (q : zq) (hT : zTop G q) (a1 : Int32) (u : zU) {v : Int32} (h : f_X10_weightOf q a1 u = some v) : z_M l D A b (zg G q) yX10_weightOf cX10_weightOf 4 (some .int) 0 0 [.ref (b + 0), .int a1] u (some (.int v)) u := by
  refine z_enter (by decide) (Nat.le_of_ble_eq_true rfl) ?_
  intro p e s m below meth c ls C0 hr hml hlk hW hS hl
  have hl : lv_has ls 4 [(0, .ref (b + 0)), (1, .int a1)] := hl
  have hx := C0.1
  have hb := C0.2.1
  have hs := hT.1
  rw [f_X10_weightOf_e] at h
  refine lv_iconst (v := (0 : Int32)) hx hb dX10_weightOf_0 (by decide) ?_
  refine lv_istore_n (lv' := [(2, .int (0 : Int32)), (0, .ref (b + 0)), (1, .int a1)]) hx hb dX10_weightOf_1 rfl hl (by decide) rfl (fun ls hl => ?_)
  refine lv_iconst (v := (0 : Int32)) hx hb dX10_weightOf_2 (by decide) ?_
  refine lv_istore_n (lv' := [(3, .int (0 : Int32)), (2, .int (0 : Int32)), (0, .ref (b + 0)), (1, .int a1)]) hx hb dX10_weightOf_3 rfl hl (by decide) rfl (fun ls hl => ?_)
  exact l_X10_weightOf_4 C0 hr hml hlk hT 5000 _ _ _ _ _ _ h hW hS (lv_sub hl [2, 3, 1, 0] rfl)
def f_X10_richestOf_7 (q : zq) : Nat → Int32 → Int32 → Int32 → Int32 → zU → Option (Int32)
  | 0, _, _, _, _, _ => none
  | n + 1, x1, x2, x3, x4, u =>
    if (u 6 8) ≤ x4 then (some x2) else (if ((x1 >>> (x4 &&& 31)) &&& (1 : Int32)) = (1 : Int32) then (if z_in x4 8 = true then (z_let (u 9 (x4).toNatClampNeg) (fun z1 => if z1 ≤ x3 then (f_X10_richestOf_7 q n x1 x2 x3 (x4 + (1 : Int32)) u) else (if z_in x4 8 = true then (z_let (u 9 (x4).toNatClampNeg) (fun z2 => f_X10_richestOf_7 q n x1 x4 z2 (x4 + (1 : Int32)) u)) else none))) else none) else (f_X10_richestOf_7 q n x1 x2 x3 (x4 + (1 : Int32)) u))
theorem f_X10_richestOf_7_s (q : zq) (n : Nat) (x1 : Int32) (x2 : Int32) (x3 : Int32) (x4 : Int32) (u : zU) : f_X10_richestOf_7 q (n + 1) x1 x2 x3 x4 u = if (u 6 8) ≤ x4 then (some x2) else (if ((x1 >>> (x4 &&& 31)) &&& (1 : Int32)) = (1 : Int32) then (if z_in x4 8 = true then (z_let (u 9 (x4).toNatClampNeg) (fun z1 => if z1 ≤ x3 then (f_X10_richestOf_7 q n x1 x2 x3 (x4 + (1 : Int32)) u) else (if z_in x4 8 = true then (z_let (u 9 (x4).toNatClampNeg) (fun z2 => f_X10_richestOf_7 q n x1 x4 z2 (x4 + (1 : Int32)) u)) else none))) else none) else (f_X10_richestOf_7 q n x1 x2 x3 (x4 + (1 : Int32)) u)) := rfl
def f_X10_richestOf (q : zq) (a1 : Int32) (u : zU) : Option (Int32) :=
  f_X10_richestOf_7 q 5000 a1 (-1 : Int32) (-1 : Int32) (0 : Int32) u
set_option maxRecDepth 100000 in
set_option maxHeartbeats 4000000 in
theorem l_X10_richestOf_7 {l : Launch} {D : zD} {A : Nat → Prop} {b : Nat} {p : Program} {e : Env} {s : State} {m : MethodId} {args : Array Value} {below : List Frame} {meth : Method} {c : Code} {G : zG} {q : zq} {v : Int32} {u : zU} (C0 : z_C p c cX10_richestOf s m args yX10_richestOf.cls D A) (hr : meth.sig.returnType = (some .int)) (hml : c.maxLocals = 5) (hlk : meth.locks = false) (hT : zTop G q) : ∀ (n : Nat) (x1 : Int32) (x2 : Int32) (x3 : Int32) (x4 : Int32) (H : Heap) (locs : List Loc) (ls : Array Slot), f_X10_richestOf_7 q n x1 x2 x3 x4 u = some v → z_W D A b (zg G q) u H → va_S A s.heap H locs → lv_has ls 5 [(0, .ref (b + 0)), (1, .int x1), (2, .int x2), (3, .int x3), (4, .int x4)] → W p l e { frames := 0, cells := 0, slots := 0, locals := 0 } s m args below meth c H locs 0 0 (z_End D A b (zg G q) below args s (some (.int v)) u) (F0 m 7 ls []) := by
  have hx := C0.1
  have hb := C0.2.1
  have hs := hT.1
  intro n
  induction n with
  | zero => intro x1 x2 x3 x4 H locs ls h hW hS hl; cases h
  | succ n ih =>
    intro x1 x2 x3 x4 H locs ls h hW hS hl
    rw [f_X10_richestOf_7_s] at h
    refine lv_iload hx hb dX10_richestOf_7 (lv_at hl 4 rfl) ?_
    refine lv_aload_n hx hb dX10_richestOf_9 rfl (lv_at hl 0 rfl) ?_
    refine z_getr (o := 6) C0 hW fl_X10_28 (zk1 (hs 0 (by decide))) rfl (zk3 (hs 0 (by decide)) 2) dX10_richestOf_10 ?_
    refine z_geti C0 hW fl_X10_221 (zT0 hT).1 rfl dX10_richestOf_13 ?_
    refine lv_icmp_ge (tgt := 63) hx hb dX10_richestOf_16 (by decide) (fun hc => ?_) (fun hc => ?_)
    · replace h := z_t h hc
      clear hc
      refine lv_iload_n hx hb dX10_richestOf_63 rfl (lv_at hl 2 rfl) ?_
      cases h
      exact z_iret C0 hr hlk hW hS dX10_richestOf_64
    · replace h := z_f h hc
      clear hc
      refine lv_iload_n hx hb dX10_richestOf_19 rfl (lv_at hl 1 rfl) ?_
      refine lv_iload hx hb dX10_richestOf_20 (lv_at hl 4 rfl) ?_
      refine lv_ishr hx hb dX10_richestOf_22 ?_
      refine lv_iconst (v := (1 : Int32)) hx hb dX10_richestOf_23 (by decide) ?_
      refine lv_iand hx hb dX10_richestOf_24 ?_
      refine lv_iconst (v := (1 : Int32)) hx hb dX10_richestOf_25 (by decide) ?_
      refine lv_icmp_ne (tgt := 57) hx hb dX10_richestOf_26 (by decide) (fun hc => ?_) (fun hc => ?_)
      · replace h := z_f h hc
        clear hc
        refine lv_iinc (v := x4 + (1 : Int32)) (lv' := [(4, .int (x4 + (1 : Int32))), (0, .ref (b + 0)), (1, .int x1), (2, .int x2), (3, .int x3)]) hx hb dX10_richestOf_57 hl (k := 4) rfl rfl (by decide) rfl (fun ls hl => ?_)
        refine lv_goto (tgt := 7) hx hb dX10_richestOf_60 (by decide) ?_
        exact ih _ _ _ _ _ _ _ h hW hS (lv_sub hl [1, 2, 3, 4, 0] rfl)
      · replace h := z_t h hc
        clear hc
        refine lv_aload_n hx hb dX10_richestOf_29 rfl (lv_at hl 0 rfl) ?_
        refine z_getr (o := 6) C0 hW fl_X10_28 (zk1 (hs 0 (by decide))) rfl (zk3 (hs 0 (by decide)) 2) dX10_richestOf_30 ?_
        refine z_getr (o := 9) C0 hW fl_X10_146 (zT0 hT).1 rfl ((zT0 hT).2.1 2 (by decide)).1 dX10_richestOf_33 ?_
        refine lv_iload hx hb dX10_richestOf_36 (lv_at hl 4 rfl) ?_
        replace h := z_if h
        obtain ⟨hin, h⟩ := h
        refine z_iald (n := 8) C0 hW ((zT0 hT).2.1 2 (by decide)).2.1 ((zT0 hT).2.1 2 (by decide)).2.2 hin rfl dX10_richestOf_38 ?_
        clear hin
        refine lv_topi (fun z1 e1 => ?_)
        replace h := z_ly h e1
        clear e1
        refine lv_iload_n hx hb dX10_richestOf_39 rfl (lv_at hl 3 rfl) ?_
        refine lv_icmp_le (tgt := 57) hx hb dX10_richestOf_40 (by decide) (fun hc => ?_) (fun hc => ?_)
        · replace h := z_t h hc
          clear hc
          refine lv_iinc (v := x4 + (1 : Int32)) (lv' := [(4, .int (x4 + (1 : Int32))), (0, .ref (b + 0)), (1, .int x1), (2, .int x2), (3, .int x3)]) hx hb dX10_richestOf_57 hl (k := 4) rfl rfl (by decide) rfl (fun ls hl => ?_)
          refine lv_goto (tgt := 7) hx hb dX10_richestOf_60 (by decide) ?_
          exact ih _ _ _ _ _ _ _ h hW hS (lv_sub hl [1, 2, 3, 4, 0] rfl)
        · replace h := z_f h hc
          clear hc
          refine lv_iload hx hb dX10_richestOf_43 (lv_at hl 4 rfl) ?_
          refine lv_istore_n (lv' := [(2, .int x4), (0, .ref (b + 0)), (1, .int x1), (3, .int x3), (4, .int x4)]) hx hb dX10_richestOf_45 rfl hl (by decide) rfl (fun ls hl => ?_)
          refine lv_aload_n hx hb dX10_richestOf_46 rfl (lv_at hl 1 rfl) ?_
          refine z_getr (o := 6) C0 hW fl_X10_28 (zk1 (hs 0 (by decide))) rfl (zk3 (hs 0 (by decide)) 2) dX10_richestOf_47 ?_
          refine z_getr (o := 9) C0 hW fl_X10_146 (zT0 hT).1 rfl ((zT0 hT).2.1 2 (by decide)).1 dX10_richestOf_50 ?_
          refine lv_iload hx hb dX10_richestOf_53 (lv_at hl 4 rfl) ?_
          replace h := z_if h
          obtain ⟨hin, h⟩ := h
          refine z_iald (n := 8) C0 hW ((zT0 hT).2.1 2 (by decide)).2.1 ((zT0 hT).2.1 2 (by decide)).2.2 hin rfl dX10_richestOf_55 ?_
          clear hin
          refine lv_topi (fun z2 e1 => ?_)
          replace h := z_ly h e1
          clear e1
          refine lv_istore_n (lv' := [(3, .int z2), (2, .int x4), (0, .ref (b + 0)), (1, .int x1), (4, .int x4)]) hx hb dX10_richestOf_56 rfl hl (by decide) rfl (fun ls hl => ?_)
          refine lv_iinc (v := x4 + (1 : Int32)) (lv' := [(4, .int (x4 + (1 : Int32))), (3, .int z2), (2, .int x4), (0, .ref (b + 0)), (1, .int x1)]) hx hb dX10_richestOf_57 hl (k := 4) rfl rfl (by decide) rfl (fun ls hl => ?_)
          refine lv_goto (tgt := 7) hx hb dX10_richestOf_60 (by decide) ?_
          exact ih _ _ _ _ _ _ _ h hW hS (lv_sub hl [3, 4, 2, 1, 0] rfl)
theorem f_X10_richestOf_e (q : zq) (a1 : Int32) (u : zU) : f_X10_richestOf q a1 u = f_X10_richestOf_7 q 5000 a1 (-1 : Int32) (-1 : Int32) (0 : Int32) u := rfl
set_option maxRecDepth 100000 in
set_option maxHeartbeats 4000000 in
theorem c_X10_richestOf (l : Launch) (D : zD) (A : Nat → Prop) (b : Nat) (G : zG) (q : zq) (hT : zTop G q) (a1 : Int32) (u : zU) {v : Int32} (h : f_X10_richestOf q a1 u = some v) : z_M l D A b (zg G q) yX10_richestOf cX10_richestOf 5 (some .int) 0 0 [.ref (b + 0), .int a1] u (some (.int v)) u := by
  refine z_enter (by decide) (Nat.le_of_ble_eq_true rfl) ?_
  intro p e s m below meth c ls C0 hr hml hlk hW hS hl
  have hl : lv_has ls 5 [(0, .ref (b + 0)), (1, .int a1)] := hl
  have hx := C0.1
  have hb := C0.2.1
  have hs := hT.1
  rw [f_X10_richestOf_e] at h
  refine lv_iconst (v := (-1 : Int32)) hx hb dX10_richestOf_0 (by decide) ?_
  refine lv_istore_n (lv' := [(2, .int (-1 : Int32)), (0, .ref (b + 0)), (1, .int a1)]) hx hb dX10_richestOf_1 rfl hl (by decide) rfl (fun ls hl => ?_)
  refine lv_iconst (v := (-1 : Int32)) hx hb dX10_richestOf_2 (by decide) ?_
  refine lv_istore_n (lv' := [(3, .int (-1 : Int32)), (2, .int (-1 : Int32)), (0, .ref (b + 0)), (1, .int a1)]) hx hb dX10_richestOf_3 rfl hl (by decide) rfl (fun ls hl => ?_)
  refine lv_iconst (v := (0 : Int32)) hx hb dX10_richestOf_4 (by decide) ?_
  refine lv_istore (lv' := [(4, .int (0 : Int32)), (3, .int (-1 : Int32)), (2, .int (-1 : Int32)), (0, .ref (b + 0)), (1, .int a1)]) hx hb dX10_richestOf_5 hl (by decide) rfl (fun ls hl => ?_)
  exact l_X10_richestOf_7 C0 hr hml hlk hT 5000 _ _ _ _ _ _ _ h hW hS (lv_sub hl [3, 4, 2, 1, 0] rfl)
def f_X10_closedCradles_4 (q : zq) : Nat → Int32 → Int32 → zU → Option (Int32)
  | 0, _, _, _ => none
  | n + 1, x1, x2, u =>
    if (8 : Int32) ≤ x2 then (some x1) else (if z_in x2 8 = true then (z_let (u 12 (x2).toNatClampNeg) (fun z1 => if z1 = 0 then (z_let (x1 ||| ((1 : Int32) <<< (x2 &&& 31))) (fun z2 => f_X10_closedCradles_4 q n z2 (x2 + (1 : Int32)) u)) else (f_X10_closedCradles_4 q n x1 (x2 + (1 : Int32)) u))) else none)
theorem f_X10_closedCradles_4_s (q : zq) (n : Nat) (x1 : Int32) (x2 : Int32) (u : zU) : f_X10_closedCradles_4 q (n + 1) x1 x2 u = if (8 : Int32) ≤ x2 then (some x1) else (if z_in x2 8 = true then (z_let (u 12 (x2).toNatClampNeg) (fun z1 => if z1 = 0 then (z_let (x1 ||| ((1 : Int32) <<< (x2 &&& 31))) (fun z2 => f_X10_closedCradles_4 q n z2 (x2 + (1 : Int32)) u)) else (f_X10_closedCradles_4 q n x1 (x2 + (1 : Int32)) u))) else none) := rfl
def f_X10_closedCradles (q : zq)  (u : zU) : Option (Int32) :=
  f_X10_closedCradles_4 q 5000 (0 : Int32) (0 : Int32) u
set_option maxRecDepth 100000 in
set_option maxHeartbeats 4000000 in
theorem l_X10_closedCradles_4 {l : Launch} {D : zD} {A : Nat → Prop} {b : Nat} {p : Program} {e : Env} {s : State} {m : MethodId} {args : Array Value} {below : List Frame} {meth : Method} {c : Code} {G : zG} {q : zq} {v : Int32} {u : zU} (C0 : z_C p c cX10_closedCradles s m args yX10_closedCradles.cls D A) (hr : meth.sig.returnType = (some .int)) (hml : c.maxLocals = 3) (hlk : meth.locks = false) (hT : zTop G q) : ∀ (n : Nat) (x1 : Int32) (x2 : Int32) (H : Heap) (locs : List Loc) (ls : Array Slot), f_X10_closedCradles_4 q n x1 x2 u = some v → z_W D A b (zg G q) u H → va_S A s.heap H locs → lv_has ls 3 [(0, .ref (b + 0)), (1, .int x1), (2, .int x2)] → W p l e { frames := 0, cells := 0, slots := 0, locals := 0 } s m args below meth c H locs 0 0 (z_End D A b (zg G q) below args s (some (.int v)) u) (F0 m 4 ls []) := by
  have hx := C0.1
  have hb := C0.2.1
  have hs := hT.1
  intro n
  induction n with
  | zero => intro x1 x2 H locs ls h hW hS hl; cases h
  | succ n ih =>
    intro x1 x2 H locs ls h hW hS hl
    rw [f_X10_closedCradles_4_s] at h
    refine lv_iload_n hx hb dX10_closedCradles_4 rfl (lv_at hl 2 rfl) ?_
    refine lv_bipush (v := (8 : Int32)) hx hb dX10_closedCradles_5 (by decide) ?_
    refine lv_icmp_ge (tgt := 34) hx hb dX10_closedCradles_7 (by decide) (fun hc => ?_) (fun hc => ?_)
    · replace h := z_t h hc
      clear hc
      refine lv_iload_n hx hb dX10_closedCradles_34 rfl (lv_at hl 1 rfl) ?_
      cases h
      exact z_iret C0 hr hlk hW hS dX10_closedCradles_35
    · replace h := z_f h hc
      clear hc
      refine lv_aload_n hx hb dX10_closedCradles_10 rfl (lv_at hl 0 rfl) ?_
      refine z_getr (o := 6) C0 hW fl_X10_28 (zk1 (hs 0 (by decide))) rfl (zk3 (hs 0 (by decide)) 2) dX10_closedCradles_11 ?_
      refine z_getr (o := 12) C0 hW fl_X10_177 (zT0 hT).1 rfl ((zT0 hT).2.1 5 (by decide)).1 dX10_closedCradles_14 ?_
      refine lv_iload_n hx hb dX10_closedCradles_17 rfl (lv_at hl 2 rfl) ?_
      replace h := z_if h
      obtain ⟨hin, h⟩ := h
      refine z_iald (n := 8) C0 hW ((zT0 hT).2.1 5 (by decide)).2.1 ((zT0 hT).2.1 5 (by decide)).2.2 hin rfl dX10_closedCradles_18 ?_
      clear hin
      refine lv_topi (fun z1 e1 => ?_)
      replace h := z_ly h e1
      clear e1
      refine lv_if_ne (tgt := 28) hx hb dX10_closedCradles_19 (by decide) (fun hc => ?_) (fun hc => ?_)
      · replace h := z_f h hc
        clear hc
        refine lv_iinc (v := x2 + (1 : Int32)) (lv' := [(2, .int (x2 + (1 : Int32))), (0, .ref (b + 0)), (1, .int x1)]) hx hb dX10_closedCradles_28 hl (k := 2) rfl rfl (by decide) rfl (fun ls hl => ?_)
        refine lv_goto (tgt := 4) hx hb dX10_closedCradles_31 (by decide) ?_
        exact ih _ _ _ _ _ h hW hS (lv_sub hl [1, 2, 0] rfl)
      · replace h := z_t h hc
        clear hc
        refine lv_iload_n hx hb dX10_closedCradles_22 rfl (lv_at hl 1 rfl) ?_
        refine lv_iconst (v := (1 : Int32)) hx hb dX10_closedCradles_23 (by decide) ?_
        refine lv_iload_n hx hb dX10_closedCradles_24 rfl (lv_at hl 2 rfl) ?_
        refine lv_ishl hx hb dX10_closedCradles_25 ?_
        refine lv_ior hx hb dX10_closedCradles_26 ?_
        refine lv_topi (fun z2 e1 => ?_)
        replace h := z_ly h e1
        clear e1
        refine lv_istore_n (lv' := [(1, .int z2), (0, .ref (b + 0)), (2, .int x2)]) hx hb dX10_closedCradles_27 rfl hl (by decide) rfl (fun ls hl => ?_)
        refine lv_iinc (v := x2 + (1 : Int32)) (lv' := [(2, .int (x2 + (1 : Int32))), (1, .int z2), (0, .ref (b + 0))]) hx hb dX10_closedCradles_28 hl (k := 2) rfl rfl (by decide) rfl (fun ls hl => ?_)
        refine lv_goto (tgt := 4) hx hb dX10_closedCradles_31 (by decide) ?_
        exact ih _ _ _ _ _ h hW hS (lv_sub hl [2, 1, 0] rfl)
theorem f_X10_closedCradles_e (q : zq)  (u : zU) : f_X10_closedCradles q u = f_X10_closedCradles_4 q 5000 (0 : Int32) (0 : Int32) u := rfl
set_option maxRecDepth 100000 in
set_option maxHeartbeats 4000000 in
theorem c_X10_closedCradles (l : Launch) (D : zD) (A : Nat → Prop) (b : Nat) (G : zG) (q : zq) (hT : zTop G q)  (u : zU) {v : Int32} (h : f_X10_closedCradles q u = some v) : z_M l D A b (zg G q) yX10_closedCradles cX10_closedCradles 3 (some .int) 0 0 [.ref (b + 0)] u (some (.int v)) u := by
  refine z_enter (by decide) (Nat.le_of_ble_eq_true rfl) ?_
  intro p e s m below meth c ls C0 hr hml hlk hW hS hl
  have hl : lv_has ls 3 [(0, .ref (b + 0))] := hl
  have hx := C0.1
  have hb := C0.2.1
  have hs := hT.1
  rw [f_X10_closedCradles_e] at h
  refine lv_iconst (v := (0 : Int32)) hx hb dX10_closedCradles_0 (by decide) ?_
  refine lv_istore_n (lv' := [(1, .int (0 : Int32)), (0, .ref (b + 0))]) hx hb dX10_closedCradles_1 rfl hl (by decide) rfl (fun ls hl => ?_)
  refine lv_iconst (v := (0 : Int32)) hx hb dX10_closedCradles_2 (by decide) ?_
  refine lv_istore_n (lv' := [(2, .int (0 : Int32)), (1, .int (0 : Int32)), (0, .ref (b + 0))]) hx hb dX10_closedCradles_3 rfl hl (by decide) rfl (fun ls hl => ?_)
  exact l_X10_closedCradles_4 C0 hr hml hlk hT 5000 _ _ _ _ _ h hW hS (lv_sub hl [2, 1, 0] rfl)
def f_X10_allPurses_4 (q : zq) : Nat → Int32 → Int32 → zU → Option (Int32)
  | 0, _, _, _ => none
  | n + 1, x1, x2, u =>
    if (u 6 8) ≤ x2 then (some x1) else (if z_in x2 8 = true then (z_let (u 9 (x2).toNatClampNeg) (fun z1 => z_let (x1 + z1) (fun z2 => f_X10_allPurses_4 q n z2 (x2 + (1 : Int32)) u))) else none)
theorem f_X10_allPurses_4_s (q : zq) (n : Nat) (x1 : Int32) (x2 : Int32) (u : zU) : f_X10_allPurses_4 q (n + 1) x1 x2 u = if (u 6 8) ≤ x2 then (some x1) else (if z_in x2 8 = true then (z_let (u 9 (x2).toNatClampNeg) (fun z1 => z_let (x1 + z1) (fun z2 => f_X10_allPurses_4 q n z2 (x2 + (1 : Int32)) u))) else none) := rfl
def f_X10_allPurses (q : zq)  (u : zU) : Option (Int32) :=
  f_X10_allPurses_4 q 5000 (0 : Int32) (0 : Int32) u
set_option maxRecDepth 100000 in
set_option maxHeartbeats 4000000 in
theorem l_X10_allPurses_4 {l : Launch} {D : zD} {A : Nat → Prop} {b : Nat} {p : Program} {e : Env} {s : State} {m : MethodId} {args : Array Value} {below : List Frame} {meth : Method} {c : Code} {G : zG} {q : zq} {v : Int32} {u : zU} (C0 : z_C p c cX10_allPurses s m args yX10_allPurses.cls D A) (hr : meth.sig.returnType = (some .int)) (hml : c.maxLocals = 3) (hlk : meth.locks = false) (hT : zTop G q) : ∀ (n : Nat) (x1 : Int32) (x2 : Int32) (H : Heap) (locs : List Loc) (ls : Array Slot), f_X10_allPurses_4 q n x1 x2 u = some v → z_W D A b (zg G q) u H → va_S A s.heap H locs → lv_has ls 3 [(0, .ref (b + 0)), (1, .int x1), (2, .int x2)] → W p l e { frames := 0, cells := 0, slots := 0, locals := 0 } s m args below meth c H locs 0 0 (z_End D A b (zg G q) below args s (some (.int v)) u) (F0 m 4 ls []) := by
  have hx := C0.1
  have hb := C0.2.1
  have hs := hT.1
  intro n
  induction n with
  | zero => intro x1 x2 H locs ls h hW hS hl; cases h
  | succ n ih =>
    intro x1 x2 H locs ls h hW hS hl
    rw [f_X10_allPurses_4_s] at h
    refine lv_iload_n hx hb dX10_allPurses_4 rfl (lv_at hl 2 rfl) ?_
    refine lv_aload_n hx hb dX10_allPurses_5 rfl (lv_at hl 0 rfl) ?_
    refine z_getr (o := 6) C0 hW fl_X10_28 (zk1 (hs 0 (by decide))) rfl (zk3 (hs 0 (by decide)) 2) dX10_allPurses_6 ?_
    refine z_geti C0 hW fl_X10_221 (zT0 hT).1 rfl dX10_allPurses_9 ?_
    refine lv_icmp_ge (tgt := 33) hx hb dX10_allPurses_12 (by decide) (fun hc => ?_) (fun hc => ?_)
    · replace h := z_t h hc
      clear hc
      refine lv_iload_n hx hb dX10_allPurses_33 rfl (lv_at hl 1 rfl) ?_
      cases h
      exact z_iret C0 hr hlk hW hS dX10_allPurses_34
    · replace h := z_f h hc
      clear hc
      refine lv_iload_n hx hb dX10_allPurses_15 rfl (lv_at hl 1 rfl) ?_
      refine lv_aload_n hx hb dX10_allPurses_16 rfl (lv_at hl 0 rfl) ?_
      refine z_getr (o := 6) C0 hW fl_X10_28 (zk1 (hs 0 (by decide))) rfl (zk3 (hs 0 (by decide)) 2) dX10_allPurses_17 ?_
      refine z_getr (o := 9) C0 hW fl_X10_146 (zT0 hT).1 rfl ((zT0 hT).2.1 2 (by decide)).1 dX10_allPurses_20 ?_
      refine lv_iload_n hx hb dX10_allPurses_23 rfl (lv_at hl 2 rfl) ?_
      replace h := z_if h
      obtain ⟨hin, h⟩ := h
      refine z_iald (n := 8) C0 hW ((zT0 hT).2.1 2 (by decide)).2.1 ((zT0 hT).2.1 2 (by decide)).2.2 hin rfl dX10_allPurses_24 ?_
      clear hin
      refine lv_topi (fun z1 e1 => ?_)
      replace h := z_ly h e1
      clear e1
      refine lv_iadd hx hb dX10_allPurses_25 ?_
      refine lv_topi (fun z2 e1 => ?_)
      replace h := z_ly h e1
      clear e1
      refine lv_istore_n (lv' := [(1, .int z2), (0, .ref (b + 0)), (2, .int x2)]) hx hb dX10_allPurses_26 rfl hl (by decide) rfl (fun ls hl => ?_)
      refine lv_iinc (v := x2 + (1 : Int32)) (lv' := [(2, .int (x2 + (1 : Int32))), (1, .int z2), (0, .ref (b + 0))]) hx hb dX10_allPurses_27 hl (k := 2) rfl rfl (by decide) rfl (fun ls hl => ?_)
      refine lv_goto (tgt := 4) hx hb dX10_allPurses_30 (by decide) ?_
      exact ih _ _ _ _ _ h hW hS (lv_sub hl [2, 1, 0] rfl)
theorem f_X10_allPurses_e (q : zq)  (u : zU) : f_X10_allPurses q u = f_X10_allPurses_4 q 5000 (0 : Int32) (0 : Int32) u := rfl
set_option maxRecDepth 100000 in
set_option maxHeartbeats 4000000 in
theorem c_X10_allPurses (l : Launch) (D : zD) (A : Nat → Prop) (b : Nat) (G : zG) (q : zq) (hT : zTop G q)  (u : zU) {v : Int32} (h : f_X10_allPurses q u = some v) : z_M l D A b (zg G q) yX10_allPurses cX10_allPurses 3 (some .int) 0 0 [.ref (b + 0)] u (some (.int v)) u := by
  refine z_enter (by decide) (Nat.le_of_ble_eq_true rfl) ?_
  intro p e s m below meth c ls C0 hr hml hlk hW hS hl
  have hl : lv_has ls 3 [(0, .ref (b + 0))] := hl
  have hx := C0.1
  have hb := C0.2.1
  have hs := hT.1
  rw [f_X10_allPurses_e] at h
  refine lv_iconst (v := (0 : Int32)) hx hb dX10_allPurses_0 (by decide) ?_
  refine lv_istore_n (lv' := [(1, .int (0 : Int32)), (0, .ref (b + 0))]) hx hb dX10_allPurses_1 rfl hl (by decide) rfl (fun ls hl => ?_)
  refine lv_iconst (v := (0 : Int32)) hx hb dX10_allPurses_2 (by decide) ?_
  refine lv_istore_n (lv' := [(2, .int (0 : Int32)), (1, .int (0 : Int32)), (0, .ref (b + 0))]) hx hb dX10_allPurses_3 rfl hl (by decide) rfl (fun ls hl => ?_)
  exact l_X10_allPurses_4 C0 hr hml hlk hT 5000 _ _ _ _ _ h hW hS (lv_sub hl [2, 1, 0] rfl)
def f_X10_allBolts_4 (q : zq) : Nat → Int32 → Int32 → zU → Option (Int32)
  | 0, _, _, _ => none
  | n + 1, x1, x2, u =>
    if (8 : Int32) ≤ x2 then (some x1) else (if z_in x2 8 = true then (z_let (u 12 (x2).toNatClampNeg) (fun z1 => z_let (x1 + z1) (fun z2 => f_X10_allBolts_4 q n z2 (x2 + (1 : Int32)) u))) else none)
theorem f_X10_allBolts_4_s (q : zq) (n : Nat) (x1 : Int32) (x2 : Int32) (u : zU) : f_X10_allBolts_4 q (n + 1) x1 x2 u = if (8 : Int32) ≤ x2 then (some x1) else (if z_in x2 8 = true then (z_let (u 12 (x2).toNatClampNeg) (fun z1 => z_let (x1 + z1) (fun z2 => f_X10_allBolts_4 q n z2 (x2 + (1 : Int32)) u))) else none) := rfl
def f_X10_allBolts (q : zq)  (u : zU) : Option (Int32) :=
  f_X10_allBolts_4 q 5000 (0 : Int32) (0 : Int32) u
set_option maxRecDepth 100000 in
set_option maxHeartbeats 4000000 in
theorem l_X10_allBolts_4 {l : Launch} {D : zD} {A : Nat → Prop} {b : Nat} {p : Program} {e : Env} {s : State} {m : MethodId} {args : Array Value} {below : List Frame} {meth : Method} {c : Code} {G : zG} {q : zq} {v : Int32} {u : zU} (C0 : z_C p c cX10_allBolts s m args yX10_allBolts.cls D A) (hr : meth.sig.returnType = (some .int)) (hml : c.maxLocals = 3) (hlk : meth.locks = false) (hT : zTop G q) : ∀ (n : Nat) (x1 : Int32) (x2 : Int32) (H : Heap) (locs : List Loc) (ls : Array Slot), f_X10_allBolts_4 q n x1 x2 u = some v → z_W D A b (zg G q) u H → va_S A s.heap H locs → lv_has ls 3 [(0, .ref (b + 0)), (1, .int x1), (2, .int x2)] → W p l e { frames := 0, cells := 0, slots := 0, locals := 0 } s m args below meth c H locs 0 0 (z_End D A b (zg G q) below args s (some (.int v)) u) (F0 m 4 ls []) := by
  have hx := C0.1
  have hb := C0.2.1
  have hs := hT.1
  intro n
  induction n with
  | zero => intro x1 x2 H locs ls h hW hS hl; cases h
  | succ n ih =>
    intro x1 x2 H locs ls h hW hS hl
    rw [f_X10_allBolts_4_s] at h
    refine lv_iload_n hx hb dX10_allBolts_4 rfl (lv_at hl 2 rfl) ?_
    refine lv_bipush (v := (8 : Int32)) hx hb dX10_allBolts_5 (by decide) ?_
    refine lv_icmp_ge (tgt := 28) hx hb dX10_allBolts_7 (by decide) (fun hc => ?_) (fun hc => ?_)
    · replace h := z_t h hc
      clear hc
      refine lv_iload_n hx hb dX10_allBolts_28 rfl (lv_at hl 1 rfl) ?_
      cases h
      exact z_iret C0 hr hlk hW hS dX10_allBolts_29
    · replace h := z_f h hc
      clear hc
      refine lv_iload_n hx hb dX10_allBolts_10 rfl (lv_at hl 1 rfl) ?_
      refine lv_aload_n hx hb dX10_allBolts_11 rfl (lv_at hl 0 rfl) ?_
      refine z_getr (o := 6) C0 hW fl_X10_28 (zk1 (hs 0 (by decide))) rfl (zk3 (hs 0 (by decide)) 2) dX10_allBolts_12 ?_
      refine z_getr (o := 12) C0 hW fl_X10_177 (zT0 hT).1 rfl ((zT0 hT).2.1 5 (by decide)).1 dX10_allBolts_15 ?_
      refine lv_iload_n hx hb dX10_allBolts_18 rfl (lv_at hl 2 rfl) ?_
      replace h := z_if h
      obtain ⟨hin, h⟩ := h
      refine z_iald (n := 8) C0 hW ((zT0 hT).2.1 5 (by decide)).2.1 ((zT0 hT).2.1 5 (by decide)).2.2 hin rfl dX10_allBolts_19 ?_
      clear hin
      refine lv_topi (fun z1 e1 => ?_)
      replace h := z_ly h e1
      clear e1
      refine lv_iadd hx hb dX10_allBolts_20 ?_
      refine lv_topi (fun z2 e1 => ?_)
      replace h := z_ly h e1
      clear e1
      refine lv_istore_n (lv' := [(1, .int z2), (0, .ref (b + 0)), (2, .int x2)]) hx hb dX10_allBolts_21 rfl hl (by decide) rfl (fun ls hl => ?_)
      refine lv_iinc (v := x2 + (1 : Int32)) (lv' := [(2, .int (x2 + (1 : Int32))), (1, .int z2), (0, .ref (b + 0))]) hx hb dX10_allBolts_22 hl (k := 2) rfl rfl (by decide) rfl (fun ls hl => ?_)
      refine lv_goto (tgt := 4) hx hb dX10_allBolts_25 (by decide) ?_
      exact ih _ _ _ _ _ h hW hS (lv_sub hl [2, 1, 0] rfl)
theorem f_X10_allBolts_e (q : zq)  (u : zU) : f_X10_allBolts q u = f_X10_allBolts_4 q 5000 (0 : Int32) (0 : Int32) u := rfl
set_option maxRecDepth 100000 in
set_option maxHeartbeats 4000000 in
theorem c_X10_allBolts (l : Launch) (D : zD) (A : Nat → Prop) (b : Nat) (G : zG) (q : zq) (hT : zTop G q)  (u : zU) {v : Int32} (h : f_X10_allBolts q u = some v) : z_M l D A b (zg G q) yX10_allBolts cX10_allBolts 3 (some .int) 0 0 [.ref (b + 0)] u (some (.int v)) u := by
  refine z_enter (by decide) (Nat.le_of_ble_eq_true rfl) ?_
  intro p e s m below meth c ls C0 hr hml hlk hW hS hl
  have hl : lv_has ls 3 [(0, .ref (b + 0))] := hl
  have hx := C0.1
  have hb := C0.2.1
  have hs := hT.1
  rw [f_X10_allBolts_e] at h
  refine lv_iconst (v := (0 : Int32)) hx hb dX10_allBolts_0 (by decide) ?_
  refine lv_istore_n (lv' := [(1, .int (0 : Int32)), (0, .ref (b + 0))]) hx hb dX10_allBolts_1 rfl hl (by decide) rfl (fun ls hl => ?_)
  refine lv_iconst (v := (0 : Int32)) hx hb dX10_allBolts_2 (by decide) ?_
  refine lv_istore_n (lv' := [(2, .int (0 : Int32)), (1, .int (0 : Int32)), (0, .ref (b + 0))]) hx hb dX10_allBolts_3 rfl hl (by decide) rfl (fun ls hl => ?_)
  exact l_X10_allBolts_4 C0 hr hml hlk hT 5000 _ _ _ _ _ h hW hS (lv_sub hl [2, 1, 0] rfl)
