theorem zal_e1 (g : zG) (n : Nat) (q : zQ) : (zal g n q n).1 = q.1 := by rw [zal_e]
theorem zal_e2 (g : zG) (n : Nat) (q : zQ) : (zal g n q n).2.1 = q.2.1 := by rw [zal_e]
theorem zal_e3 (g : zG) (n k : Nat) (q : zQ) : (zal g n q n).2.2 k = q.2.2 k := by rw [zal_e]
theorem zal_n1 (g : zG) {n r : Nat} (q : zQ) (h : r ≠ n) : (zal g n q r).1 = (g r).1 := by rw [zal_n g q h]
theorem zal_n2 (g : zG) {n r : Nat} (q : zQ) (h : r ≠ n) : (zal g n q r).2.1 = (g r).2.1 := by rw [zal_n g q h]
theorem zal_n3 (g : zG) {n r : Nat} (k : Nat) (q : zQ) (h : r ≠ n) : (zal g n q r).2.2 k = (g r).2.2 k := by rw [zal_n g q h]
def g00 : zG := fun _ => (0, 0, zNo)
def u00 : zU := fun _ _ => 0
def gI_X7_init (g : zG) (w : Nat)  (n : Nat) : zG := zgs (zal (g) n (1, 400, zNo)) w 0 n
def uI_X7_init (u : zU) (w : Nat)  (n : Nat) : zU := z_up (zst (u) n zO0) w 1 (0 : Int32)
set_option maxRecDepth 100000 in
set_option maxHeartbeats 4000000 in
theorem c_X7_init (l : Launch) (D : zD) (A : Nat → Prop) (b : Nat) (g : zG) (u : zU) (w : Nat)  (n : Nat) (kw : (g w).1 = 10) (hwn : w < n) : z_MN l D A b g n yX7_init cX7_init 1 none 1 20 1 400 [.ref (b + w)] u none (gI_X7_init g w n) (n + 1) (uI_X7_init u w n) := by
  refine z_enterN (by decide) (Nat.le_of_ble_eq_true rfl) ?_
  intro p e s m below meth c ls C0 hr hml hlk hin0 hK2 hZ hA hW hS hl
  have hl : lv_has ls 1 [(0, .ref (b + w))] := hl
  have hx := C0.1
  have hb := C0.2.1
  unfold gI_X7_init uI_X7_init
  refine lv_aload_n hx hb dX7_init_0 rfl (lv_at hl 0 rfl) ?_
  refine z_oi C0 (hml.trans hl.1.symm) oi_X7_3 dX7_init_1 ⟨Nat.le_of_ble_eq_true rfl, Nat.le_of_ble_eq_true rfl⟩ ?_
  refine lv_aload_n hx hb dX7_init_4 rfl (lv_at hl 0 rfl) ?_
  refine lv_sipush (v := (400 : Int32)) hx hb dX7_init_5 (by decide) ?_
  refine z_newI (N := 400) C0 hW hS hA hZ w_ai ⟨by decide, by decide, by decide⟩ ⟨Nat.le_of_ble_eq_true rfl, Nat.le_of_ble_eq_true rfl⟩ dX7_init_8 (fun H hW hS hZ => ?_)
  replace kw := (zal_n1 _ (1, 400, zNo) (Nat.ne_of_lt hwn)).trans kw
  replace hZ : H.size = b + (n + 1) := hZ
  refine z_putFr C0 hin0 hW hS hZ fl_X7_9 ⟨_, _, _, rfl, rfl⟩ kw rfl rfl rfl dX7_init_10 (fun H locs hW hS hZ => ?_)
  replace kw := (zgs_1 _ w 0 n _).trans kw
  refine lv_aload_n hx hb dX7_init_13 rfl (lv_at hl 0 rfl) ?_
  refine lv_iconst (v := (0 : Int32)) hx hb dX7_init_14 (by decide) ?_
  refine z_putiN C0 hW hS hZ fl_X7_15 kw rfl rfl rfl dX7_init_15 (fun H locs hW hS hZ => ?_)
  exact z_vretN C0 hr hlk hW hS hZ dX7_init_18
theorem gI_X7_init_1 (g : zG) (w : Nat)  (n : Nat) {r : Nat} (h : r < n) : (gI_X7_init g w n r).1 = (g r).1 := (zgs_1 _ _ _ _ _).trans (zal_n1 _ _ (Nat.ne_of_lt h))
theorem gI_X7_init_2 (g : zG) (w : Nat)  (n : Nat) {r : Nat} (h : r < n) : (gI_X7_init g w n r).2.1 = (g r).2.1 := (zgs_2 _ _ _ _ _).trans (zal_n2 _ _ (Nat.ne_of_lt h))
theorem gI_X7_init_3 (g : zG) (w : Nat)  (n : Nat) {r : Nat} (j : Nat) (h : r < n) (hrw : r ≠ w) : (gI_X7_init g w n r).2.2 j = (g r).2.2 j := (zgs_r _ _ _ _ hrw).trans (zal_n3 _ _ _ (Nat.ne_of_lt h))
def gI_X8_init (g : zG) (w : Nat) (t1 : Nat) (n : Nat) : zG := zgs (zgs (zal (zgs (zal (g) n (1, 401, zNo)) w 1 n) (n + 1) (1, 401, zNo)) w 2 (n + 1)) w 0 t1
def uI_X8_init (u : zU) (w : Nat) (t1 : Nat) (n : Nat) : zU := z_up (z_up (z_up (zst (zst (u) n zO0) (n + 1) zO0) w 3 (0 : Int32)) w 4 (0 : Int32)) w 5 (-1 : Int32)
set_option maxRecDepth 100000 in
set_option maxHeartbeats 4000000 in
theorem c_X8_init (l : Launch) (D : zD) (A : Nat → Prop) (b : Nat) (g : zG) (u : zU) (w : Nat) (t1 : Nat) (n : Nat) (kw : (g w).1 = 11) (hwn : w < n) : z_MN l D A b g n yX8_init cX8_init 2 none 1 20 2 802 [.ref (b + w), .ref (b + t1)] u none (gI_X8_init g w t1 n) (n + 2) (uI_X8_init u w t1 n) := by
  refine z_enterN (by decide) (Nat.le_of_ble_eq_true rfl) ?_
  intro p e s m below meth c ls C0 hr hml hlk hin0 hK2 hZ hA hW hS hl
  have hl : lv_has ls 2 [(0, .ref (b + w)), (1, .ref (b + t1))] := hl
  have hx := C0.1
  have hb := C0.2.1
  unfold gI_X8_init uI_X8_init
  refine lv_aload_n hx hb dX8_init_0 rfl (lv_at hl 0 rfl) ?_
  refine z_oi C0 (hml.trans hl.1.symm) oi_X8_3 dX8_init_1 ⟨Nat.le_of_ble_eq_true rfl, Nat.le_of_ble_eq_true rfl⟩ ?_
  refine lv_aload_n hx hb dX8_init_4 rfl (lv_at hl 0 rfl) ?_
  refine lv_sipush (v := (401 : Int32)) hx hb dX8_init_5 (by decide) ?_
  refine z_newI (N := 401) C0 hW hS hA hZ w_ai ⟨by decide, by decide, by decide⟩ ⟨Nat.le_of_ble_eq_true rfl, Nat.le_of_ble_eq_true rfl⟩ dX8_init_8 (fun H hW hS hZ => ?_)
  replace kw := (zal_n1 _ (1, 401, zNo) (Nat.ne_of_lt hwn)).trans kw
  replace hZ : H.size = b + (n + 1) := hZ
  refine z_putFr C0 hin0 hW hS hZ fl_X8_9 ⟨_, _, _, rfl, rfl⟩ kw rfl rfl rfl dX8_init_10 (fun H locs hW hS hZ => ?_)
  replace kw := (zgs_1 _ w 1 n _).trans kw
  refine lv_aload_n hx hb dX8_init_13 rfl (lv_at hl 0 rfl) ?_
  refine lv_sipush (v := (401 : Int32)) hx hb dX8_init_14 (by decide) ?_
  refine z_newI (N := 401) C0 hW hS hA hZ w_ai ⟨by decide, by decide, by decide⟩ ⟨Nat.le_of_ble_eq_true rfl, Nat.le_of_ble_eq_true rfl⟩ dX8_init_17 (fun H hW hS hZ => ?_)
  replace kw := (zal_n1 _ (1, 401, zNo) (Nat.ne_of_lt (Nat.lt_of_lt_of_le hwn (Nat.le_add_right n 1)))).trans kw
  replace hZ : H.size = b + (n + 2) := hZ
  refine z_putFr C0 hin0 hW hS hZ fl_X8_15 ⟨_, _, _, rfl, rfl⟩ kw rfl rfl rfl dX8_init_19 (fun H locs hW hS hZ => ?_)
  replace kw := (zgs_1 _ w 2 (n + 1) _).trans kw
  refine lv_aload_n hx hb dX8_init_22 rfl (lv_at hl 0 rfl) ?_
  refine lv_iconst (v := (0 : Int32)) hx hb dX8_init_23 (by decide) ?_
  refine z_putiN C0 hW hS hZ fl_X8_18 kw rfl rfl rfl dX8_init_24 (fun H locs hW hS hZ => ?_)
  refine lv_aload_n hx hb dX8_init_27 rfl (lv_at hl 0 rfl) ?_
  refine lv_iconst (v := (0 : Int32)) hx hb dX8_init_28 (by decide) ?_
  refine z_putiN C0 hW hS hZ fl_X8_22 kw rfl rfl rfl dX8_init_29 (fun H locs hW hS hZ => ?_)
  refine lv_aload_n hx hb dX8_init_32 rfl (lv_at hl 0 rfl) ?_
  refine lv_iconst (v := (-1 : Int32)) hx hb dX8_init_33 (by decide) ?_
  refine z_putiN C0 hW hS hZ fl_X8_25 kw rfl rfl rfl dX8_init_34 (fun H locs hW hS hZ => ?_)
  refine lv_aload_n hx hb dX8_init_37 rfl (lv_at hl 0 rfl) ?_
  refine lv_aload_n hx hb dX8_init_38 rfl (lv_at hl 1 rfl) ?_
  refine z_putFr C0 hin0 hW hS hZ fl_X8_28 ⟨_, _, _, rfl, rfl⟩ kw rfl rfl rfl dX8_init_39 (fun H locs hW hS hZ => ?_)
  replace kw := (zgs_1 _ w 0 t1 _).trans kw
  exact z_vretN C0 hr hlk hW hS hZ dX8_init_42
theorem gI_X8_init_1 (g : zG) (w : Nat) (t1 : Nat) (n : Nat) {r : Nat} (h : r < n) : (gI_X8_init g w t1 n r).1 = (g r).1 := (zgs_1 _ _ _ _ _).trans ((zgs_1 _ _ _ _ _).trans ((zal_n1 _ _ (Nat.ne_of_lt (Nat.lt_of_lt_of_le h (Nat.le_add_right n 1)))).trans ((zgs_1 _ _ _ _ _).trans (zal_n1 _ _ (Nat.ne_of_lt h)))))
theorem gI_X8_init_2 (g : zG) (w : Nat) (t1 : Nat) (n : Nat) {r : Nat} (h : r < n) : (gI_X8_init g w t1 n r).2.1 = (g r).2.1 := (zgs_2 _ _ _ _ _).trans ((zgs_2 _ _ _ _ _).trans ((zal_n2 _ _ (Nat.ne_of_lt (Nat.lt_of_lt_of_le h (Nat.le_add_right n 1)))).trans ((zgs_2 _ _ _ _ _).trans (zal_n2 _ _ (Nat.ne_of_lt h)))))
theorem gI_X8_init_3 (g : zG) (w : Nat) (t1 : Nat) (n : Nat) {r : Nat} (j : Nat) (h : r < n) (hrw : r ≠ w) : (gI_X8_init g w t1 n r).2.2 j = (g r).2.2 j := (zgs_r _ _ _ _ hrw).trans ((zgs_r _ _ _ _ hrw).trans ((zal_n3 _ _ _ (Nat.ne_of_lt (Nat.lt_of_lt_of_le h (Nat.le_add_right n 1)))).trans ((zgs_r _ _ _ _ hrw).trans (zal_n3 _ _ _ (Nat.ne_of_lt h)))))
def gI_X4_init (g : zG) (w : Nat)  (n : Nat) : zG := zgs (zgs (zgs (zgs (zgs (zgs (zgs (zal (g) n (1, 0, zNo)) w 1 n) w 2 n) w 3 n) w 4 n) w 5 n) w 6 n) w 7 n
def uI_X4_init (u : zU) (w : Nat)  (n : Nat) : zU := zst (z_up (u) w 0 (-1 : Int32)) n zO0
set_option maxRecDepth 100000 in
set_option maxHeartbeats 4000000 in
theorem c_X4_init (l : Launch) (D : zD) (A : Nat → Prop) (b : Nat) (g : zG) (u : zU) (w : Nat)  (n : Nat) (kw : (g w).1 = 8) (hwn : w < n) : z_MN l D A b g n yX4_init cX4_init 1 none 1 20 1 0 [.ref (b + w)] u none (gI_X4_init g w n) (n + 1) (uI_X4_init u w n) := by
  refine z_enterN (by decide) (Nat.le_of_ble_eq_true rfl) ?_
  intro p e s m below meth c ls C0 hr hml hlk hin0 hK2 hZ hA hW hS hl
  have hl : lv_has ls 1 [(0, .ref (b + w))] := hl
  have hx := C0.1
  have hb := C0.2.1
  unfold gI_X4_init uI_X4_init
  refine lv_aload_n hx hb dX4_init_0 rfl (lv_at hl 0 rfl) ?_
  refine z_oi C0 (hml.trans hl.1.symm) oi_X4_3 dX4_init_1 ⟨Nat.le_of_ble_eq_true rfl, Nat.le_of_ble_eq_true rfl⟩ ?_
  refine lv_aload_n hx hb dX4_init_4 rfl (lv_at hl 0 rfl) ?_
  refine lv_iconst (v := (-1 : Int32)) hx hb dX4_init_5 (by decide) ?_
  refine z_putFi C0 hin0 hW hS hZ fl_X4_9 ⟨_, _, _, rfl, rfl⟩ kw rfl rfl rfl dX4_init_6 (fun H locs hW hS hZ => ?_)
  refine lv_aload_n hx hb dX4_init_9 rfl (lv_at hl 0 rfl) ?_
  refine lv_iconst (v := (0 : Int32)) hx hb dX4_init_10 (by decide) ?_
  refine z_newI (N := 0) C0 hW hS hA hZ w_ai ⟨by decide, by decide, by decide⟩ ⟨Nat.le_of_ble_eq_true rfl, Nat.le_of_ble_eq_true rfl⟩ dX4_init_11 (fun H hW hS hZ => ?_)
  replace kw := (zal_n1 _ (1, 0, zNo) (Nat.ne_of_lt hwn)).trans kw
  replace hZ : H.size = b + (n + 1) := hZ
  refine z_putFr C0 hin0 hW hS hZ fl_X4_15 ⟨_, _, _, rfl, rfl⟩ kw rfl rfl rfl dX4_init_13 (fun H locs hW hS hZ => ?_)
  replace kw := (zgs_1 _ w 1 n _).trans kw
  have k2 := zgs_e (zal (g) n (1, 0, zNo)) w 1 n
  refine lv_aload_n hx hb dX4_init_16 rfl (lv_at hl 0 rfl) ?_
  refine lv_aload_n hx hb dX4_init_17 rfl (lv_at hl 0 rfl) ?_
  refine z_getr (o := n) C0 hW fl_X4_15 kw rfl k2 dX4_init_18 ?_
  refine z_putFr C0 hin0 hW hS hZ fl_X4_19 ⟨_, _, _, rfl, rfl⟩ kw rfl rfl rfl dX4_init_21 (fun H locs hW hS hZ => ?_)
  replace kw := (zgs_1 _ w 2 n _).trans kw
  replace k2 := (zgs_n (k := 2) _ w n _ (by decide)).trans k2
  refine lv_aload_n hx hb dX4_init_24 rfl (lv_at hl 0 rfl) ?_
  refine lv_aload_n hx hb dX4_init_25 rfl (lv_at hl 0 rfl) ?_
  refine z_getr (o := n) C0 hW fl_X4_15 kw rfl k2 dX4_init_26 ?_
  refine z_putFr C0 hin0 hW hS hZ fl_X4_22 ⟨_, _, _, rfl, rfl⟩ kw rfl rfl rfl dX4_init_29 (fun H locs hW hS hZ => ?_)
  replace kw := (zgs_1 _ w 3 n _).trans kw
  replace k2 := (zgs_n (k := 3) _ w n _ (by decide)).trans k2
  refine lv_aload_n hx hb dX4_init_32 rfl (lv_at hl 0 rfl) ?_
  refine lv_aload_n hx hb dX4_init_33 rfl (lv_at hl 0 rfl) ?_
  refine z_getr (o := n) C0 hW fl_X4_15 kw rfl k2 dX4_init_34 ?_
  refine z_putFr C0 hin0 hW hS hZ fl_X4_25 ⟨_, _, _, rfl, rfl⟩ kw rfl rfl rfl dX4_init_37 (fun H locs hW hS hZ => ?_)
  replace kw := (zgs_1 _ w 4 n _).trans kw
  replace k2 := (zgs_n (k := 4) _ w n _ (by decide)).trans k2
  refine lv_aload_n hx hb dX4_init_40 rfl (lv_at hl 0 rfl) ?_
  refine lv_aload_n hx hb dX4_init_41 rfl (lv_at hl 0 rfl) ?_
  refine z_getr (o := n) C0 hW fl_X4_15 kw rfl k2 dX4_init_42 ?_
  refine z_putFr C0 hin0 hW hS hZ fl_X4_28 ⟨_, _, _, rfl, rfl⟩ kw rfl rfl rfl dX4_init_45 (fun H locs hW hS hZ => ?_)
  replace kw := (zgs_1 _ w 5 n _).trans kw
  replace k2 := (zgs_n (k := 5) _ w n _ (by decide)).trans k2
  refine lv_aload_n hx hb dX4_init_48 rfl (lv_at hl 0 rfl) ?_
  refine lv_aload_n hx hb dX4_init_49 rfl (lv_at hl 0 rfl) ?_
  refine z_getr (o := n) C0 hW fl_X4_15 kw rfl k2 dX4_init_50 ?_
  refine z_putFr C0 hin0 hW hS hZ fl_X4_31 ⟨_, _, _, rfl, rfl⟩ kw rfl rfl rfl dX4_init_53 (fun H locs hW hS hZ => ?_)
  replace kw := (zgs_1 _ w 6 n _).trans kw
  replace k2 := (zgs_n (k := 6) _ w n _ (by decide)).trans k2
  refine lv_aload_n hx hb dX4_init_56 rfl (lv_at hl 0 rfl) ?_
  refine lv_aload_n hx hb dX4_init_57 rfl (lv_at hl 0 rfl) ?_
  refine z_getr (o := n) C0 hW fl_X4_15 kw rfl k2 dX4_init_58 ?_
  refine z_putFr C0 hin0 hW hS hZ fl_X4_34 ⟨_, _, _, rfl, rfl⟩ kw rfl rfl rfl dX4_init_61 (fun H locs hW hS hZ => ?_)
  replace kw := (zgs_1 _ w 7 n _).trans kw
  replace k2 := (zgs_n (k := 7) _ w n _ (by decide)).trans k2
  exact z_vretN C0 hr hlk hW hS hZ dX4_init_64
theorem gI_X4_init_1 (g : zG) (w : Nat)  (n : Nat) {r : Nat} (h : r < n) : (gI_X4_init g w n r).1 = (g r).1 := (zgs_1 _ _ _ _ _).trans ((zgs_1 _ _ _ _ _).trans ((zgs_1 _ _ _ _ _).trans ((zgs_1 _ _ _ _ _).trans ((zgs_1 _ _ _ _ _).trans ((zgs_1 _ _ _ _ _).trans ((zgs_1 _ _ _ _ _).trans (zal_n1 _ _ (Nat.ne_of_lt h))))))))
theorem gI_X4_init_2 (g : zG) (w : Nat)  (n : Nat) {r : Nat} (h : r < n) : (gI_X4_init g w n r).2.1 = (g r).2.1 := (zgs_2 _ _ _ _ _).trans ((zgs_2 _ _ _ _ _).trans ((zgs_2 _ _ _ _ _).trans ((zgs_2 _ _ _ _ _).trans ((zgs_2 _ _ _ _ _).trans ((zgs_2 _ _ _ _ _).trans ((zgs_2 _ _ _ _ _).trans (zal_n2 _ _ (Nat.ne_of_lt h))))))))
theorem gI_X4_init_3 (g : zG) (w : Nat)  (n : Nat) {r : Nat} (j : Nat) (h : r < n) (hrw : r ≠ w) : (gI_X4_init g w n r).2.2 j = (g r).2.2 j := (zgs_r _ _ _ _ hrw).trans ((zgs_r _ _ _ _ hrw).trans ((zgs_r _ _ _ _ hrw).trans ((zgs_r _ _ _ _ hrw).trans ((zgs_r _ _ _ _ hrw).trans ((zgs_r _ _ _ _ hrw).trans ((zgs_r _ _ _ _ hrw).trans (zal_n3 _ _ _ (Nat.ne_of_lt h))))))))
def gI_X9_init (g : zG) (w : Nat)  (n : Nat) : zG := zgs (gI_X4_init (zal (zgs (zal (zgs (zal (zgs (zal (zgs (zal (zgs (zal (zgs (zal (zgs (zal (zgs (zal (g) n (1, 8, zNo)) w 0 n) (n + 1) (1, 8, zNo)) w 1 (n + 1)) (n + 2) (1, 8, zNo)) w 2 (n + 2)) (n + 3) (1, 8, zNo)) w 3 (n + 3)) (n + 4) (1, 8, zNo)) w 4 (n + 4)) (n + 5) (1, 8, zNo)) w 5 (n + 5)) (n + 6) (1, 4, zNo)) w 6 (n + 6)) (n + 7) (1, 9, zNo)) w 7 (n + 7)) (n + 8) (8, 0, zNo)) (n + 8) (n + 9)) w 19 (n + 8)
def uI_X9_init (u : zU) (w : Nat)  (n : Nat) : zU := uI_X4_init (zst (z_up (z_up (z_up (z_up (z_up (z_up (z_up (z_up (z_up (z_up (z_up (zst (zst (z_up (z_up (z_up (z_up (z_up (z_up (z_up (z_up (zst (zst (zst (zst (zst (zst (u) n zO0) (n + 1) zO0) (n + 2) zO0) (n + 3) zO0) (n + 4) zO0) (n + 5) zO0) (n + 5) 0 (5 : Int32)) (n + 5) 1 (5 : Int32)) (n + 5) 2 (5 : Int32)) (n + 5) 3 (5 : Int32)) (n + 5) 4 (5 : Int32)) (n + 5) 5 (5 : Int32)) (n + 5) 6 (5 : Int32)) (n + 5) 7 (5 : Int32)) (n + 6) zO0) (n + 7) zO0) w 8 (0 : Int32)) w 9 (0 : Int32)) w 10 (5 : Int32)) w 11 (0 : Int32)) w 12 (4 : Int32)) w 13 (0 : Int32)) w 14 (0 : Int32)) w 15 (0 : Int32)) w 16 (1 : Int32)) w 17 (-1 : Int32)) w 18 (0 : Int32)) (n + 8) zO0) (n + 8) (n + 9)
set_option maxRecDepth 100000 in
set_option maxHeartbeats 4000000 in
theorem c_X9_init (l : Launch) (D : zD) (A : Nat → Prop) (b : Nat) (g : zG) (u : zU) (w : Nat)  (n : Nat) (kw : (g w).1 = 12) (hwn : w < n) : z_MN l D A b g n yX9_init cX9_init 1 none 2 40 10 69 [.ref (b + w)] u none (gI_X9_init g w n) (n + 10) (uI_X9_init u w n) := by
  refine z_enterN (by decide) (Nat.le_of_ble_eq_true rfl) ?_
  intro p e s m below meth c ls C0 hr hml hlk hin0 hK2 hZ hA hW hS hl
  have hl : lv_has ls 1 [(0, .ref (b + w))] := hl
  have hx := C0.1
  have hb := C0.2.1
  unfold gI_X9_init uI_X9_init
  refine lv_aload_n hx hb dX9_init_0 rfl (lv_at hl 0 rfl) ?_
  refine z_oi C0 (hml.trans hl.1.symm) oi_X9_3 dX9_init_1 ⟨Nat.le_of_ble_eq_true rfl, Nat.le_of_ble_eq_true rfl⟩ ?_
  refine lv_aload_n hx hb dX9_init_4 rfl (lv_at hl 0 rfl) ?_
  refine lv_bipush (v := (8 : Int32)) hx hb dX9_init_5 (by decide) ?_
  refine z_newI (N := 8) C0 hW hS hA hZ w_ai ⟨by decide, by decide, by decide⟩ ⟨Nat.le_of_ble_eq_true rfl, Nat.le_of_ble_eq_true rfl⟩ dX9_init_7 (fun H hW hS hZ => ?_)
  replace kw := (zal_n1 _ (1, 8, zNo) (Nat.ne_of_lt hwn)).trans kw
  replace hZ : H.size = b + (n + 1) := hZ
  refine z_putFr C0 hin0 hW hS hZ fl_X9_9 ⟨_, _, _, rfl, rfl⟩ kw rfl rfl rfl dX9_init_9 (fun H locs hW hS hZ => ?_)
  replace kw := (zgs_1 _ w 0 n _).trans kw
  refine lv_aload_n hx hb dX9_init_12 rfl (lv_at hl 0 rfl) ?_
  refine lv_bipush (v := (8 : Int32)) hx hb dX9_init_13 (by decide) ?_
  refine z_newI (N := 8) C0 hW hS hA hZ w_ai ⟨by decide, by decide, by decide⟩ ⟨Nat.le_of_ble_eq_true rfl, Nat.le_of_ble_eq_true rfl⟩ dX9_init_15 (fun H hW hS hZ => ?_)
  replace kw := (zal_n1 _ (1, 8, zNo) (Nat.ne_of_lt (Nat.lt_of_lt_of_le hwn (Nat.le_add_right n 1)))).trans kw
  replace hZ : H.size = b + (n + 2) := hZ
  refine z_putFr C0 hin0 hW hS hZ fl_X9_15 ⟨_, _, _, rfl, rfl⟩ kw rfl rfl rfl dX9_init_17 (fun H locs hW hS hZ => ?_)
  replace kw := (zgs_1 _ w 1 (n + 1) _).trans kw
  refine lv_aload_n hx hb dX9_init_20 rfl (lv_at hl 0 rfl) ?_
  refine lv_bipush (v := (8 : Int32)) hx hb dX9_init_21 (by decide) ?_
  refine z_newI (N := 8) C0 hW hS hA hZ w_ai ⟨by decide, by decide, by decide⟩ ⟨Nat.le_of_ble_eq_true rfl, Nat.le_of_ble_eq_true rfl⟩ dX9_init_23 (fun H hW hS hZ => ?_)
  replace kw := (zal_n1 _ (1, 8, zNo) (Nat.ne_of_lt (Nat.lt_of_lt_of_le hwn (Nat.le_add_right n 2)))).trans kw
  replace hZ : H.size = b + (n + 3) := hZ
  refine z_putFr C0 hin0 hW hS hZ fl_X9_18 ⟨_, _, _, rfl, rfl⟩ kw rfl rfl rfl dX9_init_25 (fun H locs hW hS hZ => ?_)
  replace kw := (zgs_1 _ w 2 (n + 2) _).trans kw
  refine lv_aload_n hx hb dX9_init_28 rfl (lv_at hl 0 rfl) ?_
  refine lv_bipush (v := (8 : Int32)) hx hb dX9_init_29 (by decide) ?_
  refine z_newI (N := 8) C0 hW hS hA hZ w_ai ⟨by decide, by decide, by decide⟩ ⟨Nat.le_of_ble_eq_true rfl, Nat.le_of_ble_eq_true rfl⟩ dX9_init_31 (fun H hW hS hZ => ?_)
  replace kw := (zal_n1 _ (1, 8, zNo) (Nat.ne_of_lt (Nat.lt_of_lt_of_le hwn (Nat.le_add_right n 3)))).trans kw
  replace hZ : H.size = b + (n + 4) := hZ
  refine z_putFr C0 hin0 hW hS hZ fl_X9_21 ⟨_, _, _, rfl, rfl⟩ kw rfl rfl rfl dX9_init_33 (fun H locs hW hS hZ => ?_)
  replace kw := (zgs_1 _ w 3 (n + 3) _).trans kw
  refine lv_aload_n hx hb dX9_init_36 rfl (lv_at hl 0 rfl) ?_
  refine lv_bipush (v := (8 : Int32)) hx hb dX9_init_37 (by decide) ?_
  refine z_newI (N := 8) C0 hW hS hA hZ w_ai ⟨by decide, by decide, by decide⟩ ⟨Nat.le_of_ble_eq_true rfl, Nat.le_of_ble_eq_true rfl⟩ dX9_init_39 (fun H hW hS hZ => ?_)
  replace kw := (zal_n1 _ (1, 8, zNo) (Nat.ne_of_lt (Nat.lt_of_lt_of_le hwn (Nat.le_add_right n 4)))).trans kw
  replace hZ : H.size = b + (n + 5) := hZ
  refine z_putFr C0 hin0 hW hS hZ fl_X9_24 ⟨_, _, _, rfl, rfl⟩ kw rfl rfl rfl dX9_init_41 (fun H locs hW hS hZ => ?_)
  replace kw := (zgs_1 _ w 4 (n + 4) _).trans kw
  refine lv_aload_n hx hb dX9_init_44 rfl (lv_at hl 0 rfl) ?_
  refine lv_bipush (v := (8 : Int32)) hx hb dX9_init_45 (by decide) ?_
  refine z_newI (N := 8) C0 hW hS hA hZ w_ai ⟨by decide, by decide, by decide⟩ ⟨Nat.le_of_ble_eq_true rfl, Nat.le_of_ble_eq_true rfl⟩ dX9_init_47 (fun H hW hS hZ => ?_)
  replace kw := (zal_n1 _ (1, 8, zNo) (Nat.ne_of_lt (Nat.lt_of_lt_of_le hwn (Nat.le_add_right n 5)))).trans kw
  have k2 := zal_e1 (zgs (zal (zgs (zal (zgs (zal (zgs (zal (zgs (zal (g) n (1, 8, zNo)) w 0 n) (n + 1) (1, 8, zNo)) w 1 (n + 1)) (n + 2) (1, 8, zNo)) w 2 (n + 2)) (n + 3) (1, 8, zNo)) w 3 (n + 3)) (n + 4) (1, 8, zNo)) w 4 (n + 4)) (n + 5) (1, 8, zNo)
  have k3 := zal_e2 (zgs (zal (zgs (zal (zgs (zal (zgs (zal (zgs (zal (g) n (1, 8, zNo)) w 0 n) (n + 1) (1, 8, zNo)) w 1 (n + 1)) (n + 2) (1, 8, zNo)) w 2 (n + 2)) (n + 3) (1, 8, zNo)) w 3 (n + 3)) (n + 4) (1, 8, zNo)) w 4 (n + 4)) (n + 5) (1, 8, zNo)
  replace hZ : H.size = b + (n + 6) := hZ
  refine lv_dup hx hb dX9_init_49 rfl ?_
  refine lv_iconst (v := (0 : Int32)) hx hb dX9_init_50 (by decide) ?_
  refine lv_iconst (v := (5 : Int32)) hx hb dX9_init_51 (by decide) ?_
  refine z_iastN (N := 8) C0 hW hS hZ k2 k3 (by decide) (k := 0) (by decide) dX9_init_52 (fun H locs hW hS hZ => ?_)
  refine lv_dup hx hb dX9_init_53 rfl ?_
  refine lv_iconst (v := (1 : Int32)) hx hb dX9_init_54 (by decide) ?_
  refine lv_iconst (v := (5 : Int32)) hx hb dX9_init_55 (by decide) ?_
  refine z_iastN (N := 8) C0 hW hS hZ k2 k3 (by decide) (k := 1) (by decide) dX9_init_56 (fun H locs hW hS hZ => ?_)
  refine lv_dup hx hb dX9_init_57 rfl ?_
  refine lv_iconst (v := (2 : Int32)) hx hb dX9_init_58 (by decide) ?_
  refine lv_iconst (v := (5 : Int32)) hx hb dX9_init_59 (by decide) ?_
  refine z_iastN (N := 8) C0 hW hS hZ k2 k3 (by decide) (k := 2) (by decide) dX9_init_60 (fun H locs hW hS hZ => ?_)
  refine lv_dup hx hb dX9_init_61 rfl ?_
  refine lv_iconst (v := (3 : Int32)) hx hb dX9_init_62 (by decide) ?_
  refine lv_iconst (v := (5 : Int32)) hx hb dX9_init_63 (by decide) ?_
  refine z_iastN (N := 8) C0 hW hS hZ k2 k3 (by decide) (k := 3) (by decide) dX9_init_64 (fun H locs hW hS hZ => ?_)
  refine lv_dup hx hb dX9_init_65 rfl ?_
  refine lv_iconst (v := (4 : Int32)) hx hb dX9_init_66 (by decide) ?_
  refine lv_iconst (v := (5 : Int32)) hx hb dX9_init_67 (by decide) ?_
  refine z_iastN (N := 8) C0 hW hS hZ k2 k3 (by decide) (k := 4) (by decide) dX9_init_68 (fun H locs hW hS hZ => ?_)
  refine lv_dup hx hb dX9_init_69 rfl ?_
  refine lv_iconst (v := (5 : Int32)) hx hb dX9_init_70 (by decide) ?_
  refine lv_iconst (v := (5 : Int32)) hx hb dX9_init_71 (by decide) ?_
  refine z_iastN (N := 8) C0 hW hS hZ k2 k3 (by decide) (k := 5) (by decide) dX9_init_72 (fun H locs hW hS hZ => ?_)
  refine lv_dup hx hb dX9_init_73 rfl ?_
  refine lv_bipush (v := (6 : Int32)) hx hb dX9_init_74 (by decide) ?_
  refine lv_iconst (v := (5 : Int32)) hx hb dX9_init_76 (by decide) ?_
  refine z_iastN (N := 8) C0 hW hS hZ k2 k3 (by decide) (k := 6) (by decide) dX9_init_77 (fun H locs hW hS hZ => ?_)
  refine lv_dup hx hb dX9_init_78 rfl ?_
  refine lv_bipush (v := (7 : Int32)) hx hb dX9_init_79 (by decide) ?_
  refine lv_iconst (v := (5 : Int32)) hx hb dX9_init_81 (by decide) ?_
  refine z_iastN (N := 8) C0 hW hS hZ k2 k3 (by decide) (k := 7) (by decide) dX9_init_82 (fun H locs hW hS hZ => ?_)
  refine z_putFr C0 hin0 hW hS hZ fl_X9_27 ⟨_, _, _, rfl, rfl⟩ kw rfl rfl rfl dX9_init_83 (fun H locs hW hS hZ => ?_)
  replace kw := (zgs_1 _ w 5 (n + 5) _).trans kw
  replace k2 := (zgs_1 _ w 5 (n + 5) _).trans k2
  replace k3 := (zgs_2 _ w 5 (n + 5) _).trans k3
  refine lv_aload_n hx hb dX9_init_86 rfl (lv_at hl 0 rfl) ?_
  refine lv_iconst (v := (4 : Int32)) hx hb dX9_init_87 (by decide) ?_
  refine z_newI (N := 4) C0 hW hS hA hZ w_ai ⟨by decide, by decide, by decide⟩ ⟨Nat.le_of_ble_eq_true rfl, Nat.le_of_ble_eq_true rfl⟩ dX9_init_88 (fun H hW hS hZ => ?_)
  replace kw := (zal_n1 _ (1, 4, zNo) (Nat.ne_of_lt (Nat.lt_of_lt_of_le hwn (Nat.le_add_right n 6)))).trans kw
  replace k2 := (zal_n1 _ (1, 4, zNo) (Nat.ne_of_lt (Nat.add_lt_add_left (show 5 < 6 by decide) n))).trans k2
  replace k3 := (zal_n2 _ (1, 4, zNo) (Nat.ne_of_lt (Nat.add_lt_add_left (show 5 < 6 by decide) n))).trans k3
  replace hZ : H.size = b + (n + 7) := hZ
  refine z_putFr C0 hin0 hW hS hZ fl_X9_30 ⟨_, _, _, rfl, rfl⟩ kw rfl rfl rfl dX9_init_90 (fun H locs hW hS hZ => ?_)
  replace kw := (zgs_1 _ w 6 (n + 6) _).trans kw
  replace k2 := (zgs_1 _ w 6 (n + 6) _).trans k2
  replace k3 := (zgs_2 _ w 6 (n + 6) _).trans k3
  refine lv_aload_n hx hb dX9_init_93 rfl (lv_at hl 0 rfl) ?_
  refine lv_bipush (v := (9 : Int32)) hx hb dX9_init_94 (by decide) ?_
  refine z_newI (N := 9) C0 hW hS hA hZ w_ai ⟨by decide, by decide, by decide⟩ ⟨Nat.le_of_ble_eq_true rfl, Nat.le_of_ble_eq_true rfl⟩ dX9_init_96 (fun H hW hS hZ => ?_)
  replace kw := (zal_n1 _ (1, 9, zNo) (Nat.ne_of_lt (Nat.lt_of_lt_of_le hwn (Nat.le_add_right n 7)))).trans kw
  replace k2 := (zal_n1 _ (1, 9, zNo) (Nat.ne_of_lt (Nat.add_lt_add_left (show 5 < 7 by decide) n))).trans k2
  replace k3 := (zal_n2 _ (1, 9, zNo) (Nat.ne_of_lt (Nat.add_lt_add_left (show 5 < 7 by decide) n))).trans k3
  replace hZ : H.size = b + (n + 8) := hZ
  refine z_putFr C0 hin0 hW hS hZ fl_X9_33 ⟨_, _, _, rfl, rfl⟩ kw rfl rfl rfl dX9_init_98 (fun H locs hW hS hZ => ?_)
  replace kw := (zgs_1 _ w 7 (n + 7) _).trans kw
  replace k2 := (zgs_1 _ w 7 (n + 7) _).trans k2
  replace k3 := (zgs_2 _ w 7 (n + 7) _).trans k3
  refine lv_aload_n hx hb dX9_init_101 rfl (lv_at hl 0 rfl) ?_
  refine lv_iconst (v := (0 : Int32)) hx hb dX9_init_102 (by decide) ?_
  refine z_putiN C0 hW hS hZ fl_X9_36 kw rfl rfl rfl dX9_init_103 (fun H locs hW hS hZ => ?_)
  refine lv_aload_n hx hb dX9_init_106 rfl (lv_at hl 0 rfl) ?_
  refine lv_iconst (v := (0 : Int32)) hx hb dX9_init_107 (by decide) ?_
  refine z_putiN C0 hW hS hZ fl_X9_40 kw rfl rfl rfl dX9_init_108 (fun H locs hW hS hZ => ?_)
  refine lv_aload_n hx hb dX9_init_111 rfl (lv_at hl 0 rfl) ?_
  refine lv_iconst (v := (5 : Int32)) hx hb dX9_init_112 (by decide) ?_
  refine z_putiN C0 hW hS hZ fl_X9_43 kw rfl rfl rfl dX9_init_113 (fun H locs hW hS hZ => ?_)
  refine lv_aload_n hx hb dX9_init_116 rfl (lv_at hl 0 rfl) ?_
  refine lv_iconst (v := (0 : Int32)) hx hb dX9_init_117 (by decide) ?_
  refine z_putiN C0 hW hS hZ fl_X9_46 kw rfl rfl rfl dX9_init_118 (fun H locs hW hS hZ => ?_)
  refine lv_aload_n hx hb dX9_init_121 rfl (lv_at hl 0 rfl) ?_
  refine lv_iconst (v := (4 : Int32)) hx hb dX9_init_122 (by decide) ?_
  refine z_putiN C0 hW hS hZ fl_X9_49 kw rfl rfl rfl dX9_init_123 (fun H locs hW hS hZ => ?_)
  refine lv_aload_n hx hb dX9_init_126 rfl (lv_at hl 0 rfl) ?_
  refine lv_iconst (v := (0 : Int32)) hx hb dX9_init_127 (by decide) ?_
  refine z_putiN C0 hW hS hZ fl_X9_52 kw rfl rfl rfl dX9_init_128 (fun H locs hW hS hZ => ?_)
  refine lv_aload_n hx hb dX9_init_131 rfl (lv_at hl 0 rfl) ?_
  refine lv_iconst (v := (0 : Int32)) hx hb dX9_init_132 (by decide) ?_
  refine z_putiN C0 hW hS hZ fl_X9_55 kw rfl rfl rfl dX9_init_133 (fun H locs hW hS hZ => ?_)
  refine lv_aload_n hx hb dX9_init_136 rfl (lv_at hl 0 rfl) ?_
  refine lv_iconst (v := (0 : Int32)) hx hb dX9_init_137 (by decide) ?_
  refine z_putiN C0 hW hS hZ fl_X9_58 kw rfl rfl rfl dX9_init_138 (fun H locs hW hS hZ => ?_)
  refine lv_aload_n hx hb dX9_init_141 rfl (lv_at hl 0 rfl) ?_
  refine lv_iconst (v := (1 : Int32)) hx hb dX9_init_142 (by decide) ?_
  refine z_putiN C0 hW hS hZ fl_X9_61 kw rfl rfl rfl dX9_init_143 (fun H locs hW hS hZ => ?_)
  refine lv_aload_n hx hb dX9_init_146 rfl (lv_at hl 0 rfl) ?_
  refine lv_iconst (v := (-1 : Int32)) hx hb dX9_init_147 (by decide) ?_
  refine z_putiN C0 hW hS hZ fl_X9_64 kw rfl rfl rfl dX9_init_148 (fun H locs hW hS hZ => ?_)
  refine lv_aload_n hx hb dX9_init_151 rfl (lv_at hl 0 rfl) ?_
  refine lv_iconst (v := (0 : Int32)) hx hb dX9_init_152 (by decide) ?_
  refine z_putiN C0 hW hS hZ fl_X9_67 kw rfl rfl rfl dX9_init_153 (fun H locs hW hS hZ => ?_)
  refine lv_aload_n hx hb dX9_init_156 rfl (lv_at hl 0 rfl) ?_
  refine z_newO C0 hW hS hA hZ nw_X9_70 ⟨Nat.le_of_ble_eq_true rfl, Nat.le_of_ble_eq_true rfl⟩ dX9_init_157 (fun H hW hS hZ => ?_)
  replace kw := (zal_n1 _ (8, 0, zNo) (Nat.ne_of_lt (Nat.lt_of_lt_of_le hwn (Nat.le_add_right n 8)))).trans kw
  replace k2 := (zal_n1 _ (8, 0, zNo) (Nat.ne_of_lt (Nat.add_lt_add_left (show 5 < 8 by decide) n))).trans k2
  replace k3 := (zal_n2 _ (8, 0, zNo) (Nat.ne_of_lt (Nat.add_lt_add_left (show 5 < 8 by decide) n))).trans k3
  have k4 := zal_e1 (zgs (zal (zgs (zal (zgs (zal (zgs (zal (zgs (zal (zgs (zal (zgs (zal (zgs (zal (g) n (1, 8, zNo)) w 0 n) (n + 1) (1, 8, zNo)) w 1 (n + 1)) (n + 2) (1, 8, zNo)) w 2 (n + 2)) (n + 3) (1, 8, zNo)) w 3 (n + 3)) (n + 4) (1, 8, zNo)) w 4 (n + 4)) (n + 5) (1, 8, zNo)) w 5 (n + 5)) (n + 6) (1, 4, zNo)) w 6 (n + 6)) (n + 7) (1, 9, zNo)) w 7 (n + 7)) (n + 8) (8, 0, zNo)
  replace hZ : H.size = b + (n + 9) := hZ
  refine lv_dup hx hb dX9_init_160 rfl ?_
  refine z_cI (As := []) C0 hK2 hml hl.1 hW hS hZ hA (c_X4_init l D A b _ _ (n + 8)  (n + 9) k4 (Nat.add_lt_add_left (show 8 < 9 by decide) n)) yi_X9_72 ⟨Nat.le_of_ble_eq_true rfl, Nat.le_of_ble_eq_true rfl⟩ ⟨Nat.le_of_ble_eq_true rfl, Nat.le_of_ble_eq_true rfl⟩ rfl rfl (Nat.le_of_ble_eq_true rfl) dX9_init_161 (fun H locs hW hS hZ => ?_)
  replace kw := (gI_X4_init_1 _ (n + 8) (n + 9) (Nat.lt_of_lt_of_le hwn (Nat.le_add_right n 9))).trans kw
  replace k2 := (gI_X4_init_1 _ (n + 8) (n + 9) (Nat.add_lt_add_left (show 5 < 9 by decide) n)).trans k2
  replace k3 := (gI_X4_init_2 _ (n + 8) (n + 9) (Nat.add_lt_add_left (show 5 < 9 by decide) n)).trans k3
  replace k4 := (gI_X4_init_1 _ (n + 8) (n + 9) (Nat.add_lt_add_left (show 8 < 9 by decide) n)).trans k4
  replace hZ : H.size = b + (n + 10) := hZ
  refine z_putrN C0 hW hS hZ fl_X9_73 kw rfl rfl rfl dX9_init_164 (fun H locs hW hS hZ => ?_)
  replace kw := (zgs_1 _ w 19 (n + 8) _).trans kw
  replace k2 := (zgs_1 _ w 19 (n + 8) _).trans k2
  replace k3 := (zgs_2 _ w 19 (n + 8) _).trans k3
  exact z_vretN C0 hr hlk hW hS hZ dX9_init_167
theorem gI_X9_init_1 (g : zG) (w : Nat)  (n : Nat) {r : Nat} (h : r < n) : (gI_X9_init g w n r).1 = (g r).1 := (zgs_1 _ _ _ _ _).trans ((gI_X4_init_1 _ (n + 8) (n + 9) (Nat.lt_of_lt_of_le h (Nat.le_add_right n 9))).trans ((zal_n1 _ _ (Nat.ne_of_lt (Nat.lt_of_lt_of_le h (Nat.le_add_right n 8)))).trans ((zgs_1 _ _ _ _ _).trans ((zal_n1 _ _ (Nat.ne_of_lt (Nat.lt_of_lt_of_le h (Nat.le_add_right n 7)))).trans ((zgs_1 _ _ _ _ _).trans ((zal_n1 _ _ (Nat.ne_of_lt (Nat.lt_of_lt_of_le h (Nat.le_add_right n 6)))).trans ((zgs_1 _ _ _ _ _).trans ((zal_n1 _ _ (Nat.ne_of_lt (Nat.lt_of_lt_of_le h (Nat.le_add_right n 5)))).trans ((zgs_1 _ _ _ _ _).trans ((zal_n1 _ _ (Nat.ne_of_lt (Nat.lt_of_lt_of_le h (Nat.le_add_right n 4)))).trans ((zgs_1 _ _ _ _ _).trans ((zal_n1 _ _ (Nat.ne_of_lt (Nat.lt_of_lt_of_le h (Nat.le_add_right n 3)))).trans ((zgs_1 _ _ _ _ _).trans ((zal_n1 _ _ (Nat.ne_of_lt (Nat.lt_of_lt_of_le h (Nat.le_add_right n 2)))).trans ((zgs_1 _ _ _ _ _).trans ((zal_n1 _ _ (Nat.ne_of_lt (Nat.lt_of_lt_of_le h (Nat.le_add_right n 1)))).trans ((zgs_1 _ _ _ _ _).trans (zal_n1 _ _ (Nat.ne_of_lt h)))))))))))))))))))
theorem gI_X9_init_2 (g : zG) (w : Nat)  (n : Nat) {r : Nat} (h : r < n) : (gI_X9_init g w n r).2.1 = (g r).2.1 := (zgs_2 _ _ _ _ _).trans ((gI_X4_init_2 _ (n + 8) (n + 9) (Nat.lt_of_lt_of_le h (Nat.le_add_right n 9))).trans ((zal_n2 _ _ (Nat.ne_of_lt (Nat.lt_of_lt_of_le h (Nat.le_add_right n 8)))).trans ((zgs_2 _ _ _ _ _).trans ((zal_n2 _ _ (Nat.ne_of_lt (Nat.lt_of_lt_of_le h (Nat.le_add_right n 7)))).trans ((zgs_2 _ _ _ _ _).trans ((zal_n2 _ _ (Nat.ne_of_lt (Nat.lt_of_lt_of_le h (Nat.le_add_right n 6)))).trans ((zgs_2 _ _ _ _ _).trans ((zal_n2 _ _ (Nat.ne_of_lt (Nat.lt_of_lt_of_le h (Nat.le_add_right n 5)))).trans ((zgs_2 _ _ _ _ _).trans ((zal_n2 _ _ (Nat.ne_of_lt (Nat.lt_of_lt_of_le h (Nat.le_add_right n 4)))).trans ((zgs_2 _ _ _ _ _).trans ((zal_n2 _ _ (Nat.ne_of_lt (Nat.lt_of_lt_of_le h (Nat.le_add_right n 3)))).trans ((zgs_2 _ _ _ _ _).trans ((zal_n2 _ _ (Nat.ne_of_lt (Nat.lt_of_lt_of_le h (Nat.le_add_right n 2)))).trans ((zgs_2 _ _ _ _ _).trans ((zal_n2 _ _ (Nat.ne_of_lt (Nat.lt_of_lt_of_le h (Nat.le_add_right n 1)))).trans ((zgs_2 _ _ _ _ _).trans (zal_n2 _ _ (Nat.ne_of_lt h)))))))))))))))))))
theorem gI_X9_init_3 (g : zG) (w : Nat)  (n : Nat) {r : Nat} (j : Nat) (h : r < n) (hrw : r ≠ w) : (gI_X9_init g w n r).2.2 j = (g r).2.2 j := (zgs_r _ _ _ _ hrw).trans ((gI_X4_init_3 _ (n + 8) (n + 9) _ (Nat.lt_of_lt_of_le h (Nat.le_add_right n 9)) (Nat.ne_of_lt (Nat.lt_of_lt_of_le h (Nat.le_add_right n 8)))).trans ((zal_n3 _ _ _ (Nat.ne_of_lt (Nat.lt_of_lt_of_le h (Nat.le_add_right n 8)))).trans ((zgs_r _ _ _ _ hrw).trans ((zal_n3 _ _ _ (Nat.ne_of_lt (Nat.lt_of_lt_of_le h (Nat.le_add_right n 7)))).trans ((zgs_r _ _ _ _ hrw).trans ((zal_n3 _ _ _ (Nat.ne_of_lt (Nat.lt_of_lt_of_le h (Nat.le_add_right n 6)))).trans ((zgs_r _ _ _ _ hrw).trans ((zal_n3 _ _ _ (Nat.ne_of_lt (Nat.lt_of_lt_of_le h (Nat.le_add_right n 5)))).trans ((zgs_r _ _ _ _ hrw).trans ((zal_n3 _ _ _ (Nat.ne_of_lt (Nat.lt_of_lt_of_le h (Nat.le_add_right n 4)))).trans ((zgs_r _ _ _ _ hrw).trans ((zal_n3 _ _ _ (Nat.ne_of_lt (Nat.lt_of_lt_of_le h (Nat.le_add_right n 3)))).trans ((zgs_r _ _ _ _ hrw).trans ((zal_n3 _ _ _ (Nat.ne_of_lt (Nat.lt_of_lt_of_le h (Nat.le_add_right n 2)))).trans ((zgs_r _ _ _ _ hrw).trans ((zal_n3 _ _ _ (Nat.ne_of_lt (Nat.lt_of_lt_of_le h (Nat.le_add_right n 1)))).trans ((zgs_r _ _ _ _ hrw).trans (zal_n3 _ _ _ (Nat.ne_of_lt h)))))))))))))))))))
def gI_X6_initF (g : zG) (w : Nat) (t1 : Nat) (n : Nat) : zG := zgs (g) w 0 t1
def uI_X6_initF (u : zU) (w : Nat) (t1 : Nat) (a2 : Int32) (n : Nat) : zU := z_up (u) w 1 a2
set_option maxRecDepth 100000 in
set_option maxHeartbeats 4000000 in
theorem c_X6_initF (l : Launch) (D : zD) (A : Nat → Prop) (b : Nat) (g : zG) (u : zU) (w : Nat) (t1 : Nat) (a2 : Int32) (n : Nat) (kw : (g w).1 = 5) (hwn : w < n) : z_MN l D A b g n yX6_init cX6_init 3 none 1 20 0 0 [.ref (b + w), .ref (b + t1), .int a2] u none (gI_X6_initF g w t1 n) n (uI_X6_initF u w t1 a2 n) := by
  refine z_enterN (by decide) (Nat.le_of_ble_eq_true rfl) ?_
  intro p e s m below meth c ls C0 hr hml hlk hin0 hK2 hZ hA hW hS hl
  have hl : lv_has ls 3 [(0, .ref (b + w)), (1, .ref (b + t1)), (2, .int a2)] := hl
  have hx := C0.1
  have hb := C0.2.1
  unfold gI_X6_initF uI_X6_initF
  refine lv_aload_n hx hb dX6_init_0 rfl (lv_at hl 0 rfl) ?_
  refine z_oi C0 (hml.trans hl.1.symm) oi_X6_1 dX6_init_1 ⟨Nat.le_of_ble_eq_true rfl, Nat.le_of_ble_eq_true rfl⟩ ?_
  refine lv_aload_n hx hb dX6_init_4 rfl (lv_at hl 0 rfl) ?_
  refine lv_aload_n hx hb dX6_init_5 rfl (lv_at hl 1 rfl) ?_
  refine z_putFr C0 hin0 hW hS hZ fl_X6_7_X1 ⟨_, _, _, rfl, rfl⟩ kw rfl rfl rfl dX6_init_6 (fun H locs hW hS hZ => ?_)
  replace kw := (zgs_1 _ w 0 t1 _).trans kw
  refine lv_aload_n hx hb dX6_init_9 rfl (lv_at hl 0 rfl) ?_
  refine lv_iload_n hx hb dX6_init_10 rfl (lv_at hl 2 rfl) ?_
  refine z_putFi C0 hin0 hW hS hZ fl_X6_13_X1 ⟨_, _, _, rfl, rfl⟩ kw rfl rfl rfl dX6_init_11 (fun H locs hW hS hZ => ?_)
  exact z_vretN C0 hr hlk hW hS hZ dX6_init_14
theorem gI_X6_initF_1 (g : zG) (w : Nat) (t1 : Nat) (n : Nat) {r : Nat} (h : r < n) : (gI_X6_initF g w t1 n r).1 = (g r).1 := zgs_1 _ _ _ _ _
theorem gI_X6_initF_2 (g : zG) (w : Nat) (t1 : Nat) (n : Nat) {r : Nat} (h : r < n) : (gI_X6_initF g w t1 n r).2.1 = (g r).2.1 := zgs_2 _ _ _ _ _
theorem gI_X6_initF_3 (g : zG) (w : Nat) (t1 : Nat) (n : Nat) {r : Nat} (j : Nat) (h : r < n) (hrw : r ≠ w) : (gI_X6_initF g w t1 n r).2.2 j = (g r).2.2 j := zgs_r _ _ _ _ hrw
def gI_X6_initL (g : zG) (w : Nat) (t1 : Nat) (n : Nat) : zG := zgs (g) w 0 t1
def uI_X6_initL (u : zU) (w : Nat) (t1 : Nat) (a2 : Int32) (n : Nat) : zU := z_up (u) w 1 a2
set_option maxRecDepth 100000 in
set_option maxHeartbeats 4000000 in
theorem c_X6_initL (l : Launch) (D : zD) (A : Nat → Prop) (b : Nat) (g : zG) (u : zU) (w : Nat) (t1 : Nat) (a2 : Int32) (n : Nat) (kw : (g w).1 = 9) (hwn : w < n) : z_MN l D A b g n yX6_init cX6_init 3 none 1 20 0 0 [.ref (b + w), .ref (b + t1), .int a2] u none (gI_X6_initL g w t1 n) n (uI_X6_initL u w t1 a2 n) := by
  refine z_enterN (by decide) (Nat.le_of_ble_eq_true rfl) ?_
  intro p e s m below meth c ls C0 hr hml hlk hin0 hK2 hZ hA hW hS hl
  have hl : lv_has ls 3 [(0, .ref (b + w)), (1, .ref (b + t1)), (2, .int a2)] := hl
  have hx := C0.1
  have hb := C0.2.1
  unfold gI_X6_initL uI_X6_initL
  refine lv_aload_n hx hb dX6_init_0 rfl (lv_at hl 0 rfl) ?_
  refine z_oi C0 (hml.trans hl.1.symm) oi_X6_1 dX6_init_1 ⟨Nat.le_of_ble_eq_true rfl, Nat.le_of_ble_eq_true rfl⟩ ?_
  refine lv_aload_n hx hb dX6_init_4 rfl (lv_at hl 0 rfl) ?_
  refine lv_aload_n hx hb dX6_init_5 rfl (lv_at hl 1 rfl) ?_
  refine z_putFr C0 hin0 hW hS hZ fl_X6_7_X5 ⟨_, _, _, rfl, rfl⟩ kw rfl rfl rfl dX6_init_6 (fun H locs hW hS hZ => ?_)
  replace kw := (zgs_1 _ w 0 t1 _).trans kw
  refine lv_aload_n hx hb dX6_init_9 rfl (lv_at hl 0 rfl) ?_
  refine lv_iload_n hx hb dX6_init_10 rfl (lv_at hl 2 rfl) ?_
  refine z_putFi C0 hin0 hW hS hZ fl_X6_13_X5 ⟨_, _, _, rfl, rfl⟩ kw rfl rfl rfl dX6_init_11 (fun H locs hW hS hZ => ?_)
  exact z_vretN C0 hr hlk hW hS hZ dX6_init_14
theorem gI_X6_initL_1 (g : zG) (w : Nat) (t1 : Nat) (n : Nat) {r : Nat} (h : r < n) : (gI_X6_initL g w t1 n r).1 = (g r).1 := zgs_1 _ _ _ _ _
theorem gI_X6_initL_2 (g : zG) (w : Nat) (t1 : Nat) (n : Nat) {r : Nat} (h : r < n) : (gI_X6_initL g w t1 n r).2.1 = (g r).2.1 := zgs_2 _ _ _ _ _
theorem gI_X6_initL_3 (g : zG) (w : Nat) (t1 : Nat) (n : Nat) {r : Nat} (j : Nat) (h : r < n) (hrw : r ≠ w) : (gI_X6_initL g w t1 n r).2.2 j = (g r).2.2 j := zgs_r _ _ _ _ hrw
def gI_X1_init (g : zG) (w : Nat) (t1 : Nat) (t2 : Nat) (n : Nat) : zG := zgs (gI_X6_initF g w t1 n) w 2 t2
def uI_X1_init (u : zU) (w : Nat) (t1 : Nat) (t2 : Nat) (n : Nat) : zU := uI_X6_initF u w t1 (14 : Int32) n
set_option maxRecDepth 100000 in
set_option maxHeartbeats 4000000 in
theorem c_X1_init (l : Launch) (D : zD) (A : Nat → Prop) (b : Nat) (g : zG) (u : zU) (w : Nat) (t1 : Nat) (t2 : Nat) (n : Nat) (kw : (g w).1 = 5) (hwn : w < n) : z_MN l D A b g n yX1_init cX1_init 3 none 2 42 0 0 [.ref (b + w), .ref (b + t1), .ref (b + t2)] u none (gI_X1_init g w t1 t2 n) n (uI_X1_init u w t1 t2 n) := by
  refine z_enterN (by decide) (Nat.le_of_ble_eq_true rfl) ?_
  intro p e s m below meth c ls C0 hr hml hlk hin0 hK2 hZ hA hW hS hl
  have hl : lv_has ls 3 [(0, .ref (b + w)), (1, .ref (b + t1)), (2, .ref (b + t2))] := hl
  have hx := C0.1
  have hb := C0.2.1
  unfold gI_X1_init uI_X1_init
  refine lv_aload_n hx hb dX1_init_0 rfl (lv_at hl 0 rfl) ?_
  refine lv_aload_n hx hb dX1_init_1 rfl (lv_at hl 1 rfl) ?_
  refine lv_bipush (v := (14 : Int32)) hx hb dX1_init_2 (by decide) ?_
  refine z_cI (As := [.ref (b + t1), .int (14 : Int32)]) C0 hK2 hml hl.1 hW hS hZ hA (c_X6_initF l D A b _ _ w t1 (14 : Int32) n kw hwn) yi_X1_5 ⟨Nat.le_of_ble_eq_true rfl, Nat.le_of_ble_eq_true rfl⟩ ⟨Nat.le_of_ble_eq_true rfl, Nat.le_of_ble_eq_true rfl⟩ rfl rfl (Nat.le_of_ble_eq_true rfl) dX1_init_4 (fun H locs hW hS hZ => ?_)
  replace kw := (gI_X6_initF_1 _ w t1 n hwn).trans kw
  replace hZ : H.size = b + n := hZ
  refine lv_aload_n hx hb dX1_init_7 rfl (lv_at hl 0 rfl) ?_
  refine lv_aload_n hx hb dX1_init_8 rfl (lv_at hl 2 rfl) ?_
  refine z_putFr C0 hin0 hW hS hZ fl_X1_11 ⟨_, _, _, rfl, rfl⟩ kw rfl rfl rfl dX1_init_9 (fun H locs hW hS hZ => ?_)
  replace kw := (zgs_1 _ w 2 t2 _).trans kw
  exact z_vretN C0 hr hlk hW hS hZ dX1_init_12
theorem gI_X1_init_1 (g : zG) (w : Nat) (t1 : Nat) (t2 : Nat) (n : Nat) {r : Nat} (h : r < n) : (gI_X1_init g w t1 t2 n r).1 = (g r).1 := (zgs_1 _ _ _ _ _).trans (gI_X6_initF_1 _ w t1 n h)
theorem gI_X1_init_2 (g : zG) (w : Nat) (t1 : Nat) (t2 : Nat) (n : Nat) {r : Nat} (h : r < n) : (gI_X1_init g w t1 t2 n r).2.1 = (g r).2.1 := (zgs_2 _ _ _ _ _).trans (gI_X6_initF_2 _ w t1 n h)
theorem gI_X1_init_3 (g : zG) (w : Nat) (t1 : Nat) (t2 : Nat) (n : Nat) {r : Nat} (j : Nat) (h : r < n) (hrw : r ≠ w) : (gI_X1_init g w t1 t2 n r).2.2 j = (g r).2.2 j := (zgs_r _ _ _ _ hrw).trans (gI_X6_initF_3 _ w t1 n _ h hrw)
def gI_X5_init (g : zG) (w : Nat) (t1 : Nat) (n : Nat) : zG := zgs (zal (zgs (zal (zgs (zal (zgs (zal (zgs (zal (zgs (zal (gI_X6_initL g w t1 n) n (1, 12, zNo)) w 2 n) (n + 1) (1, 12, zNo)) w 3 (n + 1)) (n + 2) (1, 12, zNo)) w 4 (n + 2)) (n + 3) (1, 400, zNo)) w 5 (n + 3)) (n + 4) (1, 400, zNo)) w 6 (n + 4)) (n + 5) (1, 400, zNo)) w 7 (n + 5)
def uI_X5_init (u : zU) (w : Nat) (t1 : Nat) (n : Nat) : zU := z_up (z_up (zst (zst (zst (zst (zst (zst (uI_X6_initL u w t1 (12 : Int32) n) n zO0) (n + 1) zO0) (n + 2) zO0) (n + 3) zO0) (n + 4) zO0) (n + 5) zO0) w 8 (0 : Int32)) w 9 (0 : Int32)
set_option maxRecDepth 100000 in
set_option maxHeartbeats 4000000 in
theorem c_X5_init (l : Launch) (D : zD) (A : Nat → Prop) (b : Nat) (g : zG) (u : zU) (w : Nat) (t1 : Nat) (n : Nat) (kw : (g w).1 = 9) (hwn : w < n) : z_MN l D A b g n yX5_init cX5_init 2 none 2 42 6 1236 [.ref (b + w), .ref (b + t1)] u none (gI_X5_init g w t1 n) (n + 6) (uI_X5_init u w t1 n) := by
  refine z_enterN (by decide) (Nat.le_of_ble_eq_true rfl) ?_
  intro p e s m below meth c ls C0 hr hml hlk hin0 hK2 hZ hA hW hS hl
  have hl : lv_has ls 2 [(0, .ref (b + w)), (1, .ref (b + t1))] := hl
  have hx := C0.1
  have hb := C0.2.1
  unfold gI_X5_init uI_X5_init
  refine lv_aload_n hx hb dX5_init_0 rfl (lv_at hl 0 rfl) ?_
  refine lv_aload_n hx hb dX5_init_1 rfl (lv_at hl 1 rfl) ?_
  refine lv_bipush (v := (12 : Int32)) hx hb dX5_init_2 (by decide) ?_
  refine z_cI (As := [.ref (b + t1), .int (12 : Int32)]) C0 hK2 hml hl.1 hW hS hZ hA (c_X6_initL l D A b _ _ w t1 (12 : Int32) n kw hwn) yi_X5_5 ⟨Nat.le_of_ble_eq_true rfl, Nat.le_of_ble_eq_true rfl⟩ ⟨Nat.le_of_ble_eq_true rfl, Nat.le_of_ble_eq_true rfl⟩ rfl rfl (Nat.le_of_ble_eq_true rfl) dX5_init_4 (fun H locs hW hS hZ => ?_)
  replace kw := (gI_X6_initL_1 _ w t1 n hwn).trans kw
  replace hZ : H.size = b + n := hZ
  refine lv_aload_n hx hb dX5_init_7 rfl (lv_at hl 0 rfl) ?_
  refine lv_bipush (v := (12 : Int32)) hx hb dX5_init_8 (by decide) ?_
  refine z_newI (N := 12) C0 hW hS hA hZ w_ai ⟨by decide, by decide, by decide⟩ ⟨Nat.le_of_ble_eq_true rfl, Nat.le_of_ble_eq_true rfl⟩ dX5_init_10 (fun H hW hS hZ => ?_)
  replace kw := (zal_n1 _ (1, 12, zNo) (Nat.ne_of_lt hwn)).trans kw
  replace hZ : H.size = b + (n + 1) := hZ
  refine z_putFr C0 hin0 hW hS hZ fl_X5_11 ⟨_, _, _, rfl, rfl⟩ kw rfl rfl rfl dX5_init_12 (fun H locs hW hS hZ => ?_)
  replace kw := (zgs_1 _ w 2 n _).trans kw
  refine lv_aload_n hx hb dX5_init_15 rfl (lv_at hl 0 rfl) ?_
  refine lv_bipush (v := (12 : Int32)) hx hb dX5_init_16 (by decide) ?_
  refine z_newI (N := 12) C0 hW hS hA hZ w_ai ⟨by decide, by decide, by decide⟩ ⟨Nat.le_of_ble_eq_true rfl, Nat.le_of_ble_eq_true rfl⟩ dX5_init_18 (fun H hW hS hZ => ?_)
  replace kw := (zal_n1 _ (1, 12, zNo) (Nat.ne_of_lt (Nat.lt_of_lt_of_le hwn (Nat.le_add_right n 1)))).trans kw
  replace hZ : H.size = b + (n + 2) := hZ
  refine z_putFr C0 hin0 hW hS hZ fl_X5_15 ⟨_, _, _, rfl, rfl⟩ kw rfl rfl rfl dX5_init_20 (fun H locs hW hS hZ => ?_)
  replace kw := (zgs_1 _ w 3 (n + 1) _).trans kw
  refine lv_aload_n hx hb dX5_init_23 rfl (lv_at hl 0 rfl) ?_
  refine lv_bipush (v := (12 : Int32)) hx hb dX5_init_24 (by decide) ?_
  refine z_newI (N := 12) C0 hW hS hA hZ w_ai ⟨by decide, by decide, by decide⟩ ⟨Nat.le_of_ble_eq_true rfl, Nat.le_of_ble_eq_true rfl⟩ dX5_init_26 (fun H hW hS hZ => ?_)
  replace kw := (zal_n1 _ (1, 12, zNo) (Nat.ne_of_lt (Nat.lt_of_lt_of_le hwn (Nat.le_add_right n 2)))).trans kw
  replace hZ : H.size = b + (n + 3) := hZ
  refine z_putFr C0 hin0 hW hS hZ fl_X5_18 ⟨_, _, _, rfl, rfl⟩ kw rfl rfl rfl dX5_init_28 (fun H locs hW hS hZ => ?_)
  replace kw := (zgs_1 _ w 4 (n + 2) _).trans kw
  refine lv_aload_n hx hb dX5_init_31 rfl (lv_at hl 0 rfl) ?_
  refine lv_sipush (v := (400 : Int32)) hx hb dX5_init_32 (by decide) ?_
  refine z_newI (N := 400) C0 hW hS hA hZ w_ai ⟨by decide, by decide, by decide⟩ ⟨Nat.le_of_ble_eq_true rfl, Nat.le_of_ble_eq_true rfl⟩ dX5_init_35 (fun H hW hS hZ => ?_)
  replace kw := (zal_n1 _ (1, 400, zNo) (Nat.ne_of_lt (Nat.lt_of_lt_of_le hwn (Nat.le_add_right n 3)))).trans kw
  replace hZ : H.size = b + (n + 4) := hZ
  refine z_putFr C0 hin0 hW hS hZ fl_X5_21 ⟨_, _, _, rfl, rfl⟩ kw rfl rfl rfl dX5_init_37 (fun H locs hW hS hZ => ?_)
  replace kw := (zgs_1 _ w 5 (n + 3) _).trans kw
  refine lv_aload_n hx hb dX5_init_40 rfl (lv_at hl 0 rfl) ?_
  refine lv_sipush (v := (400 : Int32)) hx hb dX5_init_41 (by decide) ?_
  refine z_newI (N := 400) C0 hW hS hA hZ w_ai ⟨by decide, by decide, by decide⟩ ⟨Nat.le_of_ble_eq_true rfl, Nat.le_of_ble_eq_true rfl⟩ dX5_init_44 (fun H hW hS hZ => ?_)
  replace kw := (zal_n1 _ (1, 400, zNo) (Nat.ne_of_lt (Nat.lt_of_lt_of_le hwn (Nat.le_add_right n 4)))).trans kw
  replace hZ : H.size = b + (n + 5) := hZ
  refine z_putFr C0 hin0 hW hS hZ fl_X5_24 ⟨_, _, _, rfl, rfl⟩ kw rfl rfl rfl dX5_init_46 (fun H locs hW hS hZ => ?_)
  replace kw := (zgs_1 _ w 6 (n + 4) _).trans kw
  refine lv_aload_n hx hb dX5_init_49 rfl (lv_at hl 0 rfl) ?_
  refine lv_sipush (v := (400 : Int32)) hx hb dX5_init_50 (by decide) ?_
  refine z_newI (N := 400) C0 hW hS hA hZ w_ai ⟨by decide, by decide, by decide⟩ ⟨Nat.le_of_ble_eq_true rfl, Nat.le_of_ble_eq_true rfl⟩ dX5_init_53 (fun H hW hS hZ => ?_)
  replace kw := (zal_n1 _ (1, 400, zNo) (Nat.ne_of_lt (Nat.lt_of_lt_of_le hwn (Nat.le_add_right n 5)))).trans kw
  replace hZ : H.size = b + (n + 6) := hZ
  refine z_putFr C0 hin0 hW hS hZ fl_X5_27 ⟨_, _, _, rfl, rfl⟩ kw rfl rfl rfl dX5_init_55 (fun H locs hW hS hZ => ?_)
  replace kw := (zgs_1 _ w 7 (n + 5) _).trans kw
  refine lv_aload_n hx hb dX5_init_58 rfl (lv_at hl 0 rfl) ?_
  refine lv_iconst (v := (0 : Int32)) hx hb dX5_init_59 (by decide) ?_
  refine z_putiN C0 hW hS hZ fl_X5_30 kw rfl rfl rfl dX5_init_60 (fun H locs hW hS hZ => ?_)
  refine lv_aload_n hx hb dX5_init_63 rfl (lv_at hl 0 rfl) ?_
  refine lv_iconst (v := (0 : Int32)) hx hb dX5_init_64 (by decide) ?_
  refine z_putiN C0 hW hS hZ fl_X5_34 kw rfl rfl rfl dX5_init_65 (fun H locs hW hS hZ => ?_)
  exact z_vretN C0 hr hlk hW hS hZ dX5_init_68
theorem gI_X5_init_1 (g : zG) (w : Nat) (t1 : Nat) (n : Nat) {r : Nat} (h : r < n) : (gI_X5_init g w t1 n r).1 = (g r).1 := (zgs_1 _ _ _ _ _).trans ((zal_n1 _ _ (Nat.ne_of_lt (Nat.lt_of_lt_of_le h (Nat.le_add_right n 5)))).trans ((zgs_1 _ _ _ _ _).trans ((zal_n1 _ _ (Nat.ne_of_lt (Nat.lt_of_lt_of_le h (Nat.le_add_right n 4)))).trans ((zgs_1 _ _ _ _ _).trans ((zal_n1 _ _ (Nat.ne_of_lt (Nat.lt_of_lt_of_le h (Nat.le_add_right n 3)))).trans ((zgs_1 _ _ _ _ _).trans ((zal_n1 _ _ (Nat.ne_of_lt (Nat.lt_of_lt_of_le h (Nat.le_add_right n 2)))).trans ((zgs_1 _ _ _ _ _).trans ((zal_n1 _ _ (Nat.ne_of_lt (Nat.lt_of_lt_of_le h (Nat.le_add_right n 1)))).trans ((zgs_1 _ _ _ _ _).trans ((zal_n1 _ _ (Nat.ne_of_lt h)).trans (gI_X6_initL_1 _ w t1 n h))))))))))))
theorem gI_X5_init_2 (g : zG) (w : Nat) (t1 : Nat) (n : Nat) {r : Nat} (h : r < n) : (gI_X5_init g w t1 n r).2.1 = (g r).2.1 := (zgs_2 _ _ _ _ _).trans ((zal_n2 _ _ (Nat.ne_of_lt (Nat.lt_of_lt_of_le h (Nat.le_add_right n 5)))).trans ((zgs_2 _ _ _ _ _).trans ((zal_n2 _ _ (Nat.ne_of_lt (Nat.lt_of_lt_of_le h (Nat.le_add_right n 4)))).trans ((zgs_2 _ _ _ _ _).trans ((zal_n2 _ _ (Nat.ne_of_lt (Nat.lt_of_lt_of_le h (Nat.le_add_right n 3)))).trans ((zgs_2 _ _ _ _ _).trans ((zal_n2 _ _ (Nat.ne_of_lt (Nat.lt_of_lt_of_le h (Nat.le_add_right n 2)))).trans ((zgs_2 _ _ _ _ _).trans ((zal_n2 _ _ (Nat.ne_of_lt (Nat.lt_of_lt_of_le h (Nat.le_add_right n 1)))).trans ((zgs_2 _ _ _ _ _).trans ((zal_n2 _ _ (Nat.ne_of_lt h)).trans (gI_X6_initL_2 _ w t1 n h))))))))))))
theorem gI_X5_init_3 (g : zG) (w : Nat) (t1 : Nat) (n : Nat) {r : Nat} (j : Nat) (h : r < n) (hrw : r ≠ w) : (gI_X5_init g w t1 n r).2.2 j = (g r).2.2 j := (zgs_r _ _ _ _ hrw).trans ((zal_n3 _ _ _ (Nat.ne_of_lt (Nat.lt_of_lt_of_le h (Nat.le_add_right n 5)))).trans ((zgs_r _ _ _ _ hrw).trans ((zal_n3 _ _ _ (Nat.ne_of_lt (Nat.lt_of_lt_of_le h (Nat.le_add_right n 4)))).trans ((zgs_r _ _ _ _ hrw).trans ((zal_n3 _ _ _ (Nat.ne_of_lt (Nat.lt_of_lt_of_le h (Nat.le_add_right n 3)))).trans ((zgs_r _ _ _ _ hrw).trans ((zal_n3 _ _ _ (Nat.ne_of_lt (Nat.lt_of_lt_of_le h (Nat.le_add_right n 2)))).trans ((zgs_r _ _ _ _ hrw).trans ((zal_n3 _ _ _ (Nat.ne_of_lt (Nat.lt_of_lt_of_le h (Nat.le_add_right n 1)))).trans ((zgs_r _ _ _ _ hrw).trans ((zal_n3 _ _ _ (Nat.ne_of_lt h)).trans (gI_X6_initL_3 _ w t1 n _ h hrw))))))))))))
def gI_X2_init (g : zG) (w : Nat)  (n : Nat) : zG := zgs (zal (g) n (1, 240, zNo)) w 0 n
def uI_X2_init (u : zU) (w : Nat)  (n : Nat) : zU := z_up (z_up (zst (u) n zO0) w 1 (0 : Int32)) w 2 (0 : Int32)
set_option maxRecDepth 100000 in
set_option maxHeartbeats 4000000 in
theorem c_X2_init (l : Launch) (D : zD) (A : Nat → Prop) (b : Nat) (g : zG) (u : zU) (w : Nat)  (n : Nat) (kw : (g w).1 = 6) (hwn : w < n) : z_MN l D A b g n yX2_init cX2_init 1 none 1 20 1 240 [.ref (b + w)] u none (gI_X2_init g w n) (n + 1) (uI_X2_init u w n) := by
  refine z_enterN (by decide) (Nat.le_of_ble_eq_true rfl) ?_
  intro p e s m below meth c ls C0 hr hml hlk hin0 hK2 hZ hA hW hS hl
  have hl : lv_has ls 1 [(0, .ref (b + w))] := hl
  have hx := C0.1
  have hb := C0.2.1
  unfold gI_X2_init uI_X2_init
  refine lv_aload_n hx hb dX2_init_0 rfl (lv_at hl 0 rfl) ?_
  refine z_oi C0 (hml.trans hl.1.symm) oi_X2_3 dX2_init_1 ⟨Nat.le_of_ble_eq_true rfl, Nat.le_of_ble_eq_true rfl⟩ ?_
  refine lv_aload_n hx hb dX2_init_4 rfl (lv_at hl 0 rfl) ?_
  refine lv_sipush (v := (240 : Int32)) hx hb dX2_init_5 (by decide) ?_
  refine z_newI (N := 240) C0 hW hS hA hZ w_ai ⟨by decide, by decide, by decide⟩ ⟨Nat.le_of_ble_eq_true rfl, Nat.le_of_ble_eq_true rfl⟩ dX2_init_8 (fun H hW hS hZ => ?_)
  replace kw := (zal_n1 _ (1, 240, zNo) (Nat.ne_of_lt hwn)).trans kw
  replace hZ : H.size = b + (n + 1) := hZ
  refine z_putFr C0 hin0 hW hS hZ fl_X2_11 ⟨_, _, _, rfl, rfl⟩ kw rfl rfl rfl dX2_init_10 (fun H locs hW hS hZ => ?_)
  replace kw := (zgs_1 _ w 0 n _).trans kw
  refine lv_aload_n hx hb dX2_init_13 rfl (lv_at hl 0 rfl) ?_
  refine lv_iconst (v := (0 : Int32)) hx hb dX2_init_14 (by decide) ?_
  refine z_putiN C0 hW hS hZ fl_X2_15 kw rfl rfl rfl dX2_init_15 (fun H locs hW hS hZ => ?_)
  refine lv_aload_n hx hb dX2_init_18 rfl (lv_at hl 0 rfl) ?_
  refine lv_iconst (v := (0 : Int32)) hx hb dX2_init_19 (by decide) ?_
  refine z_putiN C0 hW hS hZ fl_X2_19 kw rfl rfl rfl dX2_init_20 (fun H locs hW hS hZ => ?_)
  exact z_vretN C0 hr hlk hW hS hZ dX2_init_23
theorem gI_X2_init_1 (g : zG) (w : Nat)  (n : Nat) {r : Nat} (h : r < n) : (gI_X2_init g w n r).1 = (g r).1 := (zgs_1 _ _ _ _ _).trans (zal_n1 _ _ (Nat.ne_of_lt h))
theorem gI_X2_init_2 (g : zG) (w : Nat)  (n : Nat) {r : Nat} (h : r < n) : (gI_X2_init g w n r).2.1 = (g r).2.1 := (zgs_2 _ _ _ _ _).trans (zal_n2 _ _ (Nat.ne_of_lt h))
theorem gI_X2_init_3 (g : zG) (w : Nat)  (n : Nat) {r : Nat} (j : Nat) (h : r < n) (hrw : r ≠ w) : (gI_X2_init g w n r).2.2 j = (g r).2.2 j := (zgs_r _ _ _ _ hrw).trans (zal_n3 _ _ _ (Nat.ne_of_lt h))
def gI_X3_init (g : zG) (w : Nat)  (n : Nat) : zG := zgs (gI_X2_init (zal (zgs (gI_X9_init (zal (g) n (12, 0, zNo)) n (n + 1)) w 0 n) (n + 11) (6, 0, zNo)) (n + 11) (n + 12)) w 1 (n + 11)
def uI_X3_init (u : zU) (w : Nat)  (n : Nat) : zU := z_up (uI_X2_init (zst (uI_X9_init (zst (u) n zO0) n (n + 1)) (n + 11) zO0) (n + 11) (n + 12)) w 2 (0 : Int32)
set_option maxRecDepth 100000 in
set_option maxHeartbeats 4000000 in
theorem c_X3_init (l : Launch) (D : zD) (A : Nat → Prop) (b : Nat) (g : zG) (u : zU) (w : Nat)  (n : Nat) (kw : (g w).1 = 7) (hwn : w < n) : z_MN l D A b g n yX3_init cX3_init 1 none 3 60 13 332 [.ref (b + w)] u none (gI_X3_init g w n) (n + 13) (uI_X3_init u w n) := by
  refine z_enterN (by decide) (Nat.le_of_ble_eq_true rfl) ?_
  intro p e s m below meth c ls C0 hr hml hlk hin0 hK2 hZ hA hW hS hl
  have hl : lv_has ls 1 [(0, .ref (b + w))] := hl
  have hx := C0.1
  have hb := C0.2.1
  unfold gI_X3_init uI_X3_init
  refine lv_aload_n hx hb dX3_init_0 rfl (lv_at hl 0 rfl) ?_
  refine z_oi C0 (hml.trans hl.1.symm) oi_X3_1 dX3_init_1 ⟨Nat.le_of_ble_eq_true rfl, Nat.le_of_ble_eq_true rfl⟩ ?_
  refine lv_aload_n hx hb dX3_init_4 rfl (lv_at hl 0 rfl) ?_
  refine z_newO C0 hW hS hA hZ nw_X3_7 ⟨Nat.le_of_ble_eq_true rfl, Nat.le_of_ble_eq_true rfl⟩ dX3_init_5 (fun H hW hS hZ => ?_)
  replace kw := (zal_n1 _ (12, 0, zNo) (Nat.ne_of_lt hwn)).trans kw
  have k2 := zal_e1 (g) n (12, 0, zNo)
  replace hZ : H.size = b + (n + 1) := hZ
  refine lv_dup hx hb dX3_init_8 rfl ?_
  refine z_cI (As := []) C0 hK2 hml hl.1 hW hS hZ hA (c_X9_init l D A b _ _ n  (n + 1) k2 (show n < n + 1 from Nat.lt_add_of_pos_right (by decide))) yi_X3_9 ⟨Nat.le_of_ble_eq_true rfl, Nat.le_of_ble_eq_true rfl⟩ ⟨Nat.le_of_ble_eq_true rfl, Nat.le_of_ble_eq_true rfl⟩ rfl rfl (Nat.le_of_ble_eq_true rfl) dX3_init_9 (fun H locs hW hS hZ => ?_)
  replace kw := (gI_X9_init_1 _ n (n + 1) (Nat.lt_of_lt_of_le hwn (Nat.le_add_right n 1))).trans kw
  replace k2 := (gI_X9_init_1 _ n (n + 1) (show n < n + 1 from Nat.lt_add_of_pos_right (by decide))).trans k2
  replace hZ : H.size = b + (n + 11) := hZ
  refine z_putFr C0 hin0 hW hS hZ fl_X3_10 ⟨_, _, _, rfl, rfl⟩ kw rfl rfl rfl dX3_init_12 (fun H locs hW hS hZ => ?_)
  replace kw := (zgs_1 _ w 0 n _).trans kw
  refine lv_aload_n hx hb dX3_init_15 rfl (lv_at hl 0 rfl) ?_
  refine z_newO C0 hW hS hA hZ nw_X3_16 ⟨Nat.le_of_ble_eq_true rfl, Nat.le_of_ble_eq_true rfl⟩ dX3_init_16 (fun H hW hS hZ => ?_)
  replace kw := (zal_n1 _ (6, 0, zNo) (Nat.ne_of_lt (Nat.lt_of_lt_of_le hwn (Nat.le_add_right n 11)))).trans kw
  have k2 := zal_e1 (zgs (gI_X9_init (zal (g) n (12, 0, zNo)) n (n + 1)) w 0 n) (n + 11) (6, 0, zNo)
  replace hZ : H.size = b + (n + 12) := hZ
  refine lv_dup hx hb dX3_init_19 rfl ?_
  refine z_cI (As := []) C0 hK2 hml hl.1 hW hS hZ hA (c_X2_init l D A b _ _ (n + 11)  (n + 12) k2 (Nat.add_lt_add_left (show 11 < 12 by decide) n)) yi_X3_18 ⟨Nat.le_of_ble_eq_true rfl, Nat.le_of_ble_eq_true rfl⟩ ⟨Nat.le_of_ble_eq_true rfl, Nat.le_of_ble_eq_true rfl⟩ rfl rfl (Nat.le_of_ble_eq_true rfl) dX3_init_20 (fun H locs hW hS hZ => ?_)
  replace kw := (gI_X2_init_1 _ (n + 11) (n + 12) (Nat.lt_of_lt_of_le hwn (Nat.le_add_right n 12))).trans kw
  replace k2 := (gI_X2_init_1 _ (n + 11) (n + 12) (Nat.add_lt_add_left (show 11 < 12 by decide) n)).trans k2
  replace hZ : H.size = b + (n + 13) := hZ
  refine z_putFr C0 hin0 hW hS hZ fl_X3_19 ⟨_, _, _, rfl, rfl⟩ kw rfl rfl rfl dX3_init_23 (fun H locs hW hS hZ => ?_)
  replace kw := (zgs_1 _ w 1 (n + 11) _).trans kw
  refine lv_aload_n hx hb dX3_init_26 rfl (lv_at hl 0 rfl) ?_
  refine lv_iconst (v := (0 : Int32)) hx hb dX3_init_27 (by decide) ?_
  refine z_putiN C0 hW hS hZ fl_X3_23 kw rfl rfl rfl dX3_init_28 (fun H locs hW hS hZ => ?_)
  exact z_vretN C0 hr hlk hW hS hZ dX3_init_31
theorem gI_X3_init_1 (g : zG) (w : Nat)  (n : Nat) {r : Nat} (h : r < n) : (gI_X3_init g w n r).1 = (g r).1 := (zgs_1 _ _ _ _ _).trans ((gI_X2_init_1 _ (n + 11) (n + 12) (Nat.lt_of_lt_of_le h (Nat.le_add_right n 12))).trans ((zal_n1 _ _ (Nat.ne_of_lt (Nat.lt_of_lt_of_le h (Nat.le_add_right n 11)))).trans ((zgs_1 _ _ _ _ _).trans ((gI_X9_init_1 _ n (n + 1) (Nat.lt_of_lt_of_le h (Nat.le_add_right n 1))).trans (zal_n1 _ _ (Nat.ne_of_lt h))))))
theorem gI_X3_init_2 (g : zG) (w : Nat)  (n : Nat) {r : Nat} (h : r < n) : (gI_X3_init g w n r).2.1 = (g r).2.1 := (zgs_2 _ _ _ _ _).trans ((gI_X2_init_2 _ (n + 11) (n + 12) (Nat.lt_of_lt_of_le h (Nat.le_add_right n 12))).trans ((zal_n2 _ _ (Nat.ne_of_lt (Nat.lt_of_lt_of_le h (Nat.le_add_right n 11)))).trans ((zgs_2 _ _ _ _ _).trans ((gI_X9_init_2 _ n (n + 1) (Nat.lt_of_lt_of_le h (Nat.le_add_right n 1))).trans (zal_n2 _ _ (Nat.ne_of_lt h))))))
theorem gI_X3_init_3 (g : zG) (w : Nat)  (n : Nat) {r : Nat} (j : Nat) (h : r < n) (hrw : r ≠ w) : (gI_X3_init g w n r).2.2 j = (g r).2.2 j := (zgs_r _ _ _ _ hrw).trans ((gI_X2_init_3 _ (n + 11) (n + 12) _ (Nat.lt_of_lt_of_le h (Nat.le_add_right n 12)) (Nat.ne_of_lt (Nat.lt_of_lt_of_le h (Nat.le_add_right n 11)))).trans ((zal_n3 _ _ _ (Nat.ne_of_lt (Nat.lt_of_lt_of_le h (Nat.le_add_right n 11)))).trans ((zgs_r _ _ _ _ hrw).trans ((gI_X9_init_3 _ n (n + 1) _ (Nat.lt_of_lt_of_le h (Nat.le_add_right n 1)) (Nat.ne_of_lt h)).trans (zal_n3 _ _ _ (Nat.ne_of_lt h))))))
def gI_X0_init (g : zG) (w : Nat)  (n : Nat) : zG := zgs (gI_X3_init (zal (zgs (gI_X3_init (zal (zgs (gI_X3_init (zal (zgs (gI_X3_init (zal (zgs (gI_X3_init (zal (zgs (gI_X3_init (zal (zgs (gI_X3_init (zal (zgs (gI_X3_init (zal (zgs (gI_X3_init (zal (zgs (gI_X3_init (zal (zgs (gI_X3_init (zal (zgs (gI_X3_init (zal (zgs (zal (g) n (3, 12, zNo)) w 0 n) (n + 1) (7, 0, zNo)) (n + 1) (n + 2)) n 0 (n + 1)) (n + 15) (7, 0, zNo)) (n + 15) (n + 16)) n 1 (n + 15)) (n + 29) (7, 0, zNo)) (n + 29) (n + 30)) n 2 (n + 29)) (n + 43) (7, 0, zNo)) (n + 43) (n + 44)) n 3 (n + 43)) (n + 57) (7, 0, zNo)) (n + 57) (n + 58)) n 4 (n + 57)) (n + 71) (7, 0, zNo)) (n + 71) (n + 72)) n 5 (n + 71)) (n + 85) (7, 0, zNo)) (n + 85) (n + 86)) n 6 (n + 85)) (n + 99) (7, 0, zNo)) (n + 99) (n + 100)) n 7 (n + 99)) (n + 113) (7, 0, zNo)) (n + 113) (n + 114)) n 8 (n + 113)) (n + 127) (7, 0, zNo)) (n + 127) (n + 128)) n 9 (n + 127)) (n + 141) (7, 0, zNo)) (n + 141) (n + 142)) n 10 (n + 141)) (n + 155) (7, 0, zNo)) (n + 155) (n + 156)) n 11 (n + 155)
def uI_X0_init (u : zU) (w : Nat)  (n : Nat) : zU := uI_X3_init (zst (uI_X3_init (zst (uI_X3_init (zst (uI_X3_init (zst (uI_X3_init (zst (uI_X3_init (zst (uI_X3_init (zst (uI_X3_init (zst (uI_X3_init (zst (uI_X3_init (zst (uI_X3_init (zst (uI_X3_init (zst (z_up (z_up (zst (u) n zO0) w 1 (0 : Int32)) w 2 (0 : Int32)) (n + 1) zO0) (n + 1) (n + 2)) (n + 15) zO0) (n + 15) (n + 16)) (n + 29) zO0) (n + 29) (n + 30)) (n + 43) zO0) (n + 43) (n + 44)) (n + 57) zO0) (n + 57) (n + 58)) (n + 71) zO0) (n + 71) (n + 72)) (n + 85) zO0) (n + 85) (n + 86)) (n + 99) zO0) (n + 99) (n + 100)) (n + 113) zO0) (n + 113) (n + 114)) (n + 127) zO0) (n + 127) (n + 128)) (n + 141) zO0) (n + 141) (n + 142)) (n + 155) zO0) (n + 155) (n + 156)
set_option maxRecDepth 100000 in
set_option maxHeartbeats 4000000 in
theorem c_X0_init (l : Launch) (D : zD) (A : Nat → Prop) (b : Nat) (g : zG) (u : zU) (w : Nat)  (n : Nat) (kw : (g w).1 = 4) (hwn : w < n) : z_MN l D A b g n yX0_init cX0_init 2 none 4 80 169 4032 [.ref (b + w)] u none (gI_X0_init g w n) (n + 169) (uI_X0_init u w n) := by
  refine z_enterN (by decide) (Nat.le_of_ble_eq_true rfl) ?_
  intro p e s m below meth c ls C0 hr hml hlk hin0 hK2 hZ hA hW hS hl
  have hl : lv_has ls 2 [(0, .ref (b + w))] := hl
  have hx := C0.1
  have hb := C0.2.1
  unfold gI_X0_init uI_X0_init
  refine lv_aload_n hx hb dX0_init_0 rfl (lv_at hl 0 rfl) ?_
  refine z_oi C0 (hml.trans hl.1.symm) oi_X0_1 dX0_init_1 ⟨Nat.le_of_ble_eq_true rfl, Nat.le_of_ble_eq_true rfl⟩ ?_
  refine lv_aload_n hx hb dX0_init_4 rfl (lv_at hl 0 rfl) ?_
  refine lv_bipush (v := (12 : Int32)) hx hb dX0_init_5 (by decide) ?_
  refine z_newK (N := 12) C0 hK2 hW hS hA hZ w_cl_X0_9 ⟨by decide, by decide, by decide⟩ ⟨Nat.le_of_ble_eq_true rfl, Nat.le_of_ble_eq_true rfl⟩ dX0_init_7 (fun H hW hS hZ => ?_)
  replace kw := (zal_n1 _ (3, 12, zNo) (Nat.ne_of_lt hwn)).trans kw
  have k2 := zal_e1 (g) n (3, 12, zNo)
  have k3 := zal_e2 (g) n (3, 12, zNo)
  replace hZ : H.size = b + (n + 1) := hZ
  refine z_putFr C0 hin0 hW hS hZ fl_X0_11 ⟨_, _, _, rfl, rfl⟩ kw rfl rfl rfl dX0_init_10 (fun H locs hW hS hZ => ?_)
  replace kw := (zgs_1 _ w 0 n _).trans kw
  replace k2 := (zgs_1 _ w 0 n _).trans k2
  replace k3 := (zgs_2 _ w 0 n _).trans k3
  have k4 := zgs_e (zal (g) n (3, 12, zNo)) w 0 n
  refine lv_aload_n hx hb dX0_init_13 rfl (lv_at hl 0 rfl) ?_
  refine lv_iconst (v := (0 : Int32)) hx hb dX0_init_14 (by decide) ?_
  refine z_putiN C0 hW hS hZ fl_X0_15 kw rfl rfl rfl dX0_init_15 (fun H locs hW hS hZ => ?_)
  refine lv_aload_n hx hb dX0_init_18 rfl (lv_at hl 0 rfl) ?_
  refine lv_iconst (v := (0 : Int32)) hx hb dX0_init_19 (by decide) ?_
  refine z_putiN C0 hW hS hZ fl_X0_19 kw rfl rfl rfl dX0_init_20 (fun H locs hW hS hZ => ?_)
  refine lv_iconst (v := (0 : Int32)) hx hb dX0_init_23 (by decide) ?_
  refine lv_istore_n (lv' := [(1, .int (0 : Int32)), (0, .ref (b + w))]) hx hb dX0_init_24 rfl hl (by decide) rfl (fun ls hl => ?_)
  refine lv_iload_n hx hb dX0_init_25 rfl (lv_at hl 0 rfl) ?_
  refine lv_bipush (v := (12 : Int32)) hx hb dX0_init_26 (by decide) ?_
  refine lv_icmp_ge (tgt := 50) hx hb dX0_init_28 (by decide) (fun hc => absurd hc (by decide)) (fun hc => ?_)
  clear hc
  refine lv_aload_n hx hb dX0_init_31 rfl (lv_at hl 1 rfl) ?_
  refine z_getr (o := n) C0 hW fl_X0_11 kw rfl k4 dX0_init_32 ?_
  refine lv_iload_n hx hb dX0_init_35 rfl (lv_at hl 0 rfl) ?_
  refine z_newO C0 hW hS hA hZ nw_X0_9 ⟨Nat.le_of_ble_eq_true rfl, Nat.le_of_ble_eq_true rfl⟩ dX0_init_36 (fun H hW hS hZ => ?_)
  replace kw := (zal_n1 _ (7, 0, zNo) (Nat.ne_of_lt (Nat.lt_of_lt_of_le hwn (Nat.le_add_right n 1)))).trans kw
  replace k2 := (zal_n1 _ (7, 0, zNo) (Nat.ne_of_lt (show n < n + 1 from Nat.lt_add_of_pos_right (by decide)))).trans k2
  replace k3 := (zal_n2 _ (7, 0, zNo) (Nat.ne_of_lt (show n < n + 1 from Nat.lt_add_of_pos_right (by decide)))).trans k3
  replace k4 := (zal_n3 _ _ (7, 0, zNo) (Nat.ne_of_lt (Nat.lt_of_lt_of_le hwn (Nat.le_add_right n 1)))).trans k4
  have k5 := zal_e1 (zgs (zal (g) n (3, 12, zNo)) w 0 n) (n + 1) (7, 0, zNo)
  replace hZ : H.size = b + (n + 2) := hZ
  refine lv_dup hx hb dX0_init_39 rfl ?_
  refine z_cI (As := []) C0 hK2 hml hl.1 hW hS hZ hA (c_X3_init l D A b _ _ (n + 1)  (n + 2) k5 (Nat.add_lt_add_left (show 1 < 2 by decide) n)) yi_X0_22 ⟨Nat.le_of_ble_eq_true rfl, Nat.le_of_ble_eq_true rfl⟩ ⟨Nat.le_of_ble_eq_true rfl, Nat.le_of_ble_eq_true rfl⟩ rfl rfl (Nat.le_of_ble_eq_true rfl) dX0_init_40 (fun H locs hW hS hZ => ?_)
  replace kw := (gI_X3_init_1 _ (n + 1) (n + 2) (Nat.lt_of_lt_of_le hwn (Nat.le_add_right n 2))).trans kw
  replace k2 := (gI_X3_init_1 _ (n + 1) (n + 2) (show n < n + 2 from Nat.lt_add_of_pos_right (by decide))).trans k2
  replace k3 := (gI_X3_init_2 _ (n + 1) (n + 2) (show n < n + 2 from Nat.lt_add_of_pos_right (by decide))).trans k3
  replace k4 := (gI_X3_init_3 _ (n + 1) (n + 2) _ (Nat.lt_of_lt_of_le hwn (Nat.le_add_right n 2)) (Nat.ne_of_lt (Nat.lt_of_lt_of_le hwn (Nat.le_add_right n 1)))).trans k4
  replace k5 := (gI_X3_init_1 _ (n + 1) (n + 2) (Nat.add_lt_add_left (show 1 < 2 by decide) n)).trans k5
  replace hZ : H.size = b + (n + 15) := hZ
  refine z_aastN (N := 12) C0 hW hS hZ k2 k3 k5 (by decide) (k := 0) (by decide) dX0_init_43 (fun H locs hW hS hZ => ?_)
  replace kw := (zgs_1 _ n 0 (n + 1) _).trans kw
  replace k2 := (zgs_1 _ n 0 (n + 1) _).trans k2
  replace k3 := (zgs_2 _ n 0 (n + 1) _).trans k3
  replace k4 := (zgs_r (r := n) _ 0 (n + 1) _ (Nat.ne_of_lt hwn)).trans k4
  refine lv_iinc (v := (1 : Int32)) (lv' := [(1, .int (1 : Int32)), (0, .ref (b + w))]) hx hb dX0_init_44 hl (k := 0) rfl rfl (by decide) rfl (fun ls hl => ?_)
  refine lv_goto (tgt := 25) hx hb dX0_init_47 (by decide) ?_
  refine lv_iload_n hx hb dX0_init_25 rfl (lv_at hl 0 rfl) ?_
  refine lv_bipush (v := (12 : Int32)) hx hb dX0_init_26 (by decide) ?_
  refine lv_icmp_ge (tgt := 50) hx hb dX0_init_28 (by decide) (fun hc => absurd hc (by decide)) (fun hc => ?_)
  clear hc
  refine lv_aload_n hx hb dX0_init_31 rfl (lv_at hl 1 rfl) ?_
  refine z_getr (o := n) C0 hW fl_X0_11 kw rfl k4 dX0_init_32 ?_
  refine lv_iload_n hx hb dX0_init_35 rfl (lv_at hl 0 rfl) ?_
  refine z_newO C0 hW hS hA hZ nw_X0_9 ⟨Nat.le_of_ble_eq_true rfl, Nat.le_of_ble_eq_true rfl⟩ dX0_init_36 (fun H hW hS hZ => ?_)
  replace kw := (zal_n1 _ (7, 0, zNo) (Nat.ne_of_lt (Nat.lt_of_lt_of_le hwn (Nat.le_add_right n 15)))).trans kw
  replace k2 := (zal_n1 _ (7, 0, zNo) (Nat.ne_of_lt (show n < n + 15 from Nat.lt_add_of_pos_right (by decide)))).trans k2
  replace k3 := (zal_n2 _ (7, 0, zNo) (Nat.ne_of_lt (show n < n + 15 from Nat.lt_add_of_pos_right (by decide)))).trans k3
  replace k4 := (zal_n3 _ _ (7, 0, zNo) (Nat.ne_of_lt (Nat.lt_of_lt_of_le hwn (Nat.le_add_right n 15)))).trans k4
  have k5 := zal_e1 (zgs (gI_X3_init (zal (zgs (zal (g) n (3, 12, zNo)) w 0 n) (n + 1) (7, 0, zNo)) (n + 1) (n + 2)) n 0 (n + 1)) (n + 15) (7, 0, zNo)
  replace hZ : H.size = b + (n + 16) := hZ
  refine lv_dup hx hb dX0_init_39 rfl ?_
  refine z_cI (As := []) C0 hK2 hml hl.1 hW hS hZ hA (c_X3_init l D A b _ _ (n + 15)  (n + 16) k5 (Nat.add_lt_add_left (show 15 < 16 by decide) n)) yi_X0_22 ⟨Nat.le_of_ble_eq_true rfl, Nat.le_of_ble_eq_true rfl⟩ ⟨Nat.le_of_ble_eq_true rfl, Nat.le_of_ble_eq_true rfl⟩ rfl rfl (Nat.le_of_ble_eq_true rfl) dX0_init_40 (fun H locs hW hS hZ => ?_)
  replace kw := (gI_X3_init_1 _ (n + 15) (n + 16) (Nat.lt_of_lt_of_le hwn (Nat.le_add_right n 16))).trans kw
  replace k2 := (gI_X3_init_1 _ (n + 15) (n + 16) (show n < n + 16 from Nat.lt_add_of_pos_right (by decide))).trans k2
  replace k3 := (gI_X3_init_2 _ (n + 15) (n + 16) (show n < n + 16 from Nat.lt_add_of_pos_right (by decide))).trans k3
  replace k4 := (gI_X3_init_3 _ (n + 15) (n + 16) _ (Nat.lt_of_lt_of_le hwn (Nat.le_add_right n 16)) (Nat.ne_of_lt (Nat.lt_of_lt_of_le hwn (Nat.le_add_right n 15)))).trans k4
  replace k5 := (gI_X3_init_1 _ (n + 15) (n + 16) (Nat.add_lt_add_left (show 15 < 16 by decide) n)).trans k5
  replace hZ : H.size = b + (n + 29) := hZ
  refine z_aastN (N := 12) C0 hW hS hZ k2 k3 k5 (by decide) (k := 1) (by decide) dX0_init_43 (fun H locs hW hS hZ => ?_)
  replace kw := (zgs_1 _ n 1 (n + 15) _).trans kw
  replace k2 := (zgs_1 _ n 1 (n + 15) _).trans k2
  replace k3 := (zgs_2 _ n 1 (n + 15) _).trans k3
  replace k4 := (zgs_r (r := n) _ 1 (n + 15) _ (Nat.ne_of_lt hwn)).trans k4
  refine lv_iinc (v := (2 : Int32)) (lv' := [(1, .int (2 : Int32)), (0, .ref (b + w))]) hx hb dX0_init_44 hl (k := 0) rfl rfl (by decide) rfl (fun ls hl => ?_)
  refine lv_goto (tgt := 25) hx hb dX0_init_47 (by decide) ?_
  refine lv_iload_n hx hb dX0_init_25 rfl (lv_at hl 0 rfl) ?_
  refine lv_bipush (v := (12 : Int32)) hx hb dX0_init_26 (by decide) ?_
  refine lv_icmp_ge (tgt := 50) hx hb dX0_init_28 (by decide) (fun hc => absurd hc (by decide)) (fun hc => ?_)
  clear hc
  refine lv_aload_n hx hb dX0_init_31 rfl (lv_at hl 1 rfl) ?_
  refine z_getr (o := n) C0 hW fl_X0_11 kw rfl k4 dX0_init_32 ?_
  refine lv_iload_n hx hb dX0_init_35 rfl (lv_at hl 0 rfl) ?_
  refine z_newO C0 hW hS hA hZ nw_X0_9 ⟨Nat.le_of_ble_eq_true rfl, Nat.le_of_ble_eq_true rfl⟩ dX0_init_36 (fun H hW hS hZ => ?_)
  replace kw := (zal_n1 _ (7, 0, zNo) (Nat.ne_of_lt (Nat.lt_of_lt_of_le hwn (Nat.le_add_right n 29)))).trans kw
  replace k2 := (zal_n1 _ (7, 0, zNo) (Nat.ne_of_lt (show n < n + 29 from Nat.lt_add_of_pos_right (by decide)))).trans k2
  replace k3 := (zal_n2 _ (7, 0, zNo) (Nat.ne_of_lt (show n < n + 29 from Nat.lt_add_of_pos_right (by decide)))).trans k3
  replace k4 := (zal_n3 _ _ (7, 0, zNo) (Nat.ne_of_lt (Nat.lt_of_lt_of_le hwn (Nat.le_add_right n 29)))).trans k4
  have k5 := zal_e1 (zgs (gI_X3_init (zal (zgs (gI_X3_init (zal (zgs (zal (g) n (3, 12, zNo)) w 0 n) (n + 1) (7, 0, zNo)) (n + 1) (n + 2)) n 0 (n + 1)) (n + 15) (7, 0, zNo)) (n + 15) (n + 16)) n 1 (n + 15)) (n + 29) (7, 0, zNo)
  replace hZ : H.size = b + (n + 30) := hZ
  refine lv_dup hx hb dX0_init_39 rfl ?_
  refine z_cI (As := []) C0 hK2 hml hl.1 hW hS hZ hA (c_X3_init l D A b _ _ (n + 29)  (n + 30) k5 (Nat.add_lt_add_left (show 29 < 30 by decide) n)) yi_X0_22 ⟨Nat.le_of_ble_eq_true rfl, Nat.le_of_ble_eq_true rfl⟩ ⟨Nat.le_of_ble_eq_true rfl, Nat.le_of_ble_eq_true rfl⟩ rfl rfl (Nat.le_of_ble_eq_true rfl) dX0_init_40 (fun H locs hW hS hZ => ?_)
  replace kw := (gI_X3_init_1 _ (n + 29) (n + 30) (Nat.lt_of_lt_of_le hwn (Nat.le_add_right n 30))).trans kw
  replace k2 := (gI_X3_init_1 _ (n + 29) (n + 30) (show n < n + 30 from Nat.lt_add_of_pos_right (by decide))).trans k2
  replace k3 := (gI_X3_init_2 _ (n + 29) (n + 30) (show n < n + 30 from Nat.lt_add_of_pos_right (by decide))).trans k3
  replace k4 := (gI_X3_init_3 _ (n + 29) (n + 30) _ (Nat.lt_of_lt_of_le hwn (Nat.le_add_right n 30)) (Nat.ne_of_lt (Nat.lt_of_lt_of_le hwn (Nat.le_add_right n 29)))).trans k4
  replace k5 := (gI_X3_init_1 _ (n + 29) (n + 30) (Nat.add_lt_add_left (show 29 < 30 by decide) n)).trans k5
  replace hZ : H.size = b + (n + 43) := hZ
  refine z_aastN (N := 12) C0 hW hS hZ k2 k3 k5 (by decide) (k := 2) (by decide) dX0_init_43 (fun H locs hW hS hZ => ?_)
  replace kw := (zgs_1 _ n 2 (n + 29) _).trans kw
  replace k2 := (zgs_1 _ n 2 (n + 29) _).trans k2
  replace k3 := (zgs_2 _ n 2 (n + 29) _).trans k3
  replace k4 := (zgs_r (r := n) _ 2 (n + 29) _ (Nat.ne_of_lt hwn)).trans k4
  refine lv_iinc (v := (3 : Int32)) (lv' := [(1, .int (3 : Int32)), (0, .ref (b + w))]) hx hb dX0_init_44 hl (k := 0) rfl rfl (by decide) rfl (fun ls hl => ?_)
  refine lv_goto (tgt := 25) hx hb dX0_init_47 (by decide) ?_
  refine lv_iload_n hx hb dX0_init_25 rfl (lv_at hl 0 rfl) ?_
  refine lv_bipush (v := (12 : Int32)) hx hb dX0_init_26 (by decide) ?_
  refine lv_icmp_ge (tgt := 50) hx hb dX0_init_28 (by decide) (fun hc => absurd hc (by decide)) (fun hc => ?_)
  clear hc
  refine lv_aload_n hx hb dX0_init_31 rfl (lv_at hl 1 rfl) ?_
  refine z_getr (o := n) C0 hW fl_X0_11 kw rfl k4 dX0_init_32 ?_
  refine lv_iload_n hx hb dX0_init_35 rfl (lv_at hl 0 rfl) ?_
  refine z_newO C0 hW hS hA hZ nw_X0_9 ⟨Nat.le_of_ble_eq_true rfl, Nat.le_of_ble_eq_true rfl⟩ dX0_init_36 (fun H hW hS hZ => ?_)
  replace kw := (zal_n1 _ (7, 0, zNo) (Nat.ne_of_lt (Nat.lt_of_lt_of_le hwn (Nat.le_add_right n 43)))).trans kw
  replace k2 := (zal_n1 _ (7, 0, zNo) (Nat.ne_of_lt (show n < n + 43 from Nat.lt_add_of_pos_right (by decide)))).trans k2
  replace k3 := (zal_n2 _ (7, 0, zNo) (Nat.ne_of_lt (show n < n + 43 from Nat.lt_add_of_pos_right (by decide)))).trans k3
  replace k4 := (zal_n3 _ _ (7, 0, zNo) (Nat.ne_of_lt (Nat.lt_of_lt_of_le hwn (Nat.le_add_right n 43)))).trans k4
  have k5 := zal_e1 (zgs (gI_X3_init (zal (zgs (gI_X3_init (zal (zgs (gI_X3_init (zal (zgs (zal (g) n (3, 12, zNo)) w 0 n) (n + 1) (7, 0, zNo)) (n + 1) (n + 2)) n 0 (n + 1)) (n + 15) (7, 0, zNo)) (n + 15) (n + 16)) n 1 (n + 15)) (n + 29) (7, 0, zNo)) (n + 29) (n + 30)) n 2 (n + 29)) (n + 43) (7, 0, zNo)
  replace hZ : H.size = b + (n + 44) := hZ
  refine lv_dup hx hb dX0_init_39 rfl ?_
  refine z_cI (As := []) C0 hK2 hml hl.1 hW hS hZ hA (c_X3_init l D A b _ _ (n + 43)  (n + 44) k5 (Nat.add_lt_add_left (show 43 < 44 by decide) n)) yi_X0_22 ⟨Nat.le_of_ble_eq_true rfl, Nat.le_of_ble_eq_true rfl⟩ ⟨Nat.le_of_ble_eq_true rfl, Nat.le_of_ble_eq_true rfl⟩ rfl rfl (Nat.le_of_ble_eq_true rfl) dX0_init_40 (fun H locs hW hS hZ => ?_)
  replace kw := (gI_X3_init_1 _ (n + 43) (n + 44) (Nat.lt_of_lt_of_le hwn (Nat.le_add_right n 44))).trans kw
  replace k2 := (gI_X3_init_1 _ (n + 43) (n + 44) (show n < n + 44 from Nat.lt_add_of_pos_right (by decide))).trans k2
  replace k3 := (gI_X3_init_2 _ (n + 43) (n + 44) (show n < n + 44 from Nat.lt_add_of_pos_right (by decide))).trans k3
  replace k4 := (gI_X3_init_3 _ (n + 43) (n + 44) _ (Nat.lt_of_lt_of_le hwn (Nat.le_add_right n 44)) (Nat.ne_of_lt (Nat.lt_of_lt_of_le hwn (Nat.le_add_right n 43)))).trans k4
  replace k5 := (gI_X3_init_1 _ (n + 43) (n + 44) (Nat.add_lt_add_left (show 43 < 44 by decide) n)).trans k5
  replace hZ : H.size = b + (n + 57) := hZ
  refine z_aastN (N := 12) C0 hW hS hZ k2 k3 k5 (by decide) (k := 3) (by decide) dX0_init_43 (fun H locs hW hS hZ => ?_)
  replace kw := (zgs_1 _ n 3 (n + 43) _).trans kw
  replace k2 := (zgs_1 _ n 3 (n + 43) _).trans k2
  replace k3 := (zgs_2 _ n 3 (n + 43) _).trans k3
  replace k4 := (zgs_r (r := n) _ 3 (n + 43) _ (Nat.ne_of_lt hwn)).trans k4
  refine lv_iinc (v := (4 : Int32)) (lv' := [(1, .int (4 : Int32)), (0, .ref (b + w))]) hx hb dX0_init_44 hl (k := 0) rfl rfl (by decide) rfl (fun ls hl => ?_)
  refine lv_goto (tgt := 25) hx hb dX0_init_47 (by decide) ?_
  refine lv_iload_n hx hb dX0_init_25 rfl (lv_at hl 0 rfl) ?_
  refine lv_bipush (v := (12 : Int32)) hx hb dX0_init_26 (by decide) ?_
  refine lv_icmp_ge (tgt := 50) hx hb dX0_init_28 (by decide) (fun hc => absurd hc (by decide)) (fun hc => ?_)
  clear hc
  refine lv_aload_n hx hb dX0_init_31 rfl (lv_at hl 1 rfl) ?_
  refine z_getr (o := n) C0 hW fl_X0_11 kw rfl k4 dX0_init_32 ?_
  refine lv_iload_n hx hb dX0_init_35 rfl (lv_at hl 0 rfl) ?_
  refine z_newO C0 hW hS hA hZ nw_X0_9 ⟨Nat.le_of_ble_eq_true rfl, Nat.le_of_ble_eq_true rfl⟩ dX0_init_36 (fun H hW hS hZ => ?_)
  replace kw := (zal_n1 _ (7, 0, zNo) (Nat.ne_of_lt (Nat.lt_of_lt_of_le hwn (Nat.le_add_right n 57)))).trans kw
  replace k2 := (zal_n1 _ (7, 0, zNo) (Nat.ne_of_lt (show n < n + 57 from Nat.lt_add_of_pos_right (by decide)))).trans k2
  replace k3 := (zal_n2 _ (7, 0, zNo) (Nat.ne_of_lt (show n < n + 57 from Nat.lt_add_of_pos_right (by decide)))).trans k3
  replace k4 := (zal_n3 _ _ (7, 0, zNo) (Nat.ne_of_lt (Nat.lt_of_lt_of_le hwn (Nat.le_add_right n 57)))).trans k4
  have k5 := zal_e1 (zgs (gI_X3_init (zal (zgs (gI_X3_init (zal (zgs (gI_X3_init (zal (zgs (gI_X3_init (zal (zgs (zal (g) n (3, 12, zNo)) w 0 n) (n + 1) (7, 0, zNo)) (n + 1) (n + 2)) n 0 (n + 1)) (n + 15) (7, 0, zNo)) (n + 15) (n + 16)) n 1 (n + 15)) (n + 29) (7, 0, zNo)) (n + 29) (n + 30)) n 2 (n + 29)) (n + 43) (7, 0, zNo)) (n + 43) (n + 44)) n 3 (n + 43)) (n + 57) (7, 0, zNo)
  replace hZ : H.size = b + (n + 58) := hZ
  refine lv_dup hx hb dX0_init_39 rfl ?_
  refine z_cI (As := []) C0 hK2 hml hl.1 hW hS hZ hA (c_X3_init l D A b _ _ (n + 57)  (n + 58) k5 (Nat.add_lt_add_left (show 57 < 58 by decide) n)) yi_X0_22 ⟨Nat.le_of_ble_eq_true rfl, Nat.le_of_ble_eq_true rfl⟩ ⟨Nat.le_of_ble_eq_true rfl, Nat.le_of_ble_eq_true rfl⟩ rfl rfl (Nat.le_of_ble_eq_true rfl) dX0_init_40 (fun H locs hW hS hZ => ?_)
  replace kw := (gI_X3_init_1 _ (n + 57) (n + 58) (Nat.lt_of_lt_of_le hwn (Nat.le_add_right n 58))).trans kw
  replace k2 := (gI_X3_init_1 _ (n + 57) (n + 58) (show n < n + 58 from Nat.lt_add_of_pos_right (by decide))).trans k2
  replace k3 := (gI_X3_init_2 _ (n + 57) (n + 58) (show n < n + 58 from Nat.lt_add_of_pos_right (by decide))).trans k3
  replace k4 := (gI_X3_init_3 _ (n + 57) (n + 58) _ (Nat.lt_of_lt_of_le hwn (Nat.le_add_right n 58)) (Nat.ne_of_lt (Nat.lt_of_lt_of_le hwn (Nat.le_add_right n 57)))).trans k4
  replace k5 := (gI_X3_init_1 _ (n + 57) (n + 58) (Nat.add_lt_add_left (show 57 < 58 by decide) n)).trans k5
  replace hZ : H.size = b + (n + 71) := hZ
  refine z_aastN (N := 12) C0 hW hS hZ k2 k3 k5 (by decide) (k := 4) (by decide) dX0_init_43 (fun H locs hW hS hZ => ?_)
  replace kw := (zgs_1 _ n 4 (n + 57) _).trans kw
  replace k2 := (zgs_1 _ n 4 (n + 57) _).trans k2
  replace k3 := (zgs_2 _ n 4 (n + 57) _).trans k3
  replace k4 := (zgs_r (r := n) _ 4 (n + 57) _ (Nat.ne_of_lt hwn)).trans k4
  refine lv_iinc (v := (5 : Int32)) (lv' := [(1, .int (5 : Int32)), (0, .ref (b + w))]) hx hb dX0_init_44 hl (k := 0) rfl rfl (by decide) rfl (fun ls hl => ?_)
  refine lv_goto (tgt := 25) hx hb dX0_init_47 (by decide) ?_
  refine lv_iload_n hx hb dX0_init_25 rfl (lv_at hl 0 rfl) ?_
  refine lv_bipush (v := (12 : Int32)) hx hb dX0_init_26 (by decide) ?_
  refine lv_icmp_ge (tgt := 50) hx hb dX0_init_28 (by decide) (fun hc => absurd hc (by decide)) (fun hc => ?_)
  clear hc
  refine lv_aload_n hx hb dX0_init_31 rfl (lv_at hl 1 rfl) ?_
  refine z_getr (o := n) C0 hW fl_X0_11 kw rfl k4 dX0_init_32 ?_
  refine lv_iload_n hx hb dX0_init_35 rfl (lv_at hl 0 rfl) ?_
  refine z_newO C0 hW hS hA hZ nw_X0_9 ⟨Nat.le_of_ble_eq_true rfl, Nat.le_of_ble_eq_true rfl⟩ dX0_init_36 (fun H hW hS hZ => ?_)
  replace kw := (zal_n1 _ (7, 0, zNo) (Nat.ne_of_lt (Nat.lt_of_lt_of_le hwn (Nat.le_add_right n 71)))).trans kw
  replace k2 := (zal_n1 _ (7, 0, zNo) (Nat.ne_of_lt (show n < n + 71 from Nat.lt_add_of_pos_right (by decide)))).trans k2
  replace k3 := (zal_n2 _ (7, 0, zNo) (Nat.ne_of_lt (show n < n + 71 from Nat.lt_add_of_pos_right (by decide)))).trans k3
  replace k4 := (zal_n3 _ _ (7, 0, zNo) (Nat.ne_of_lt (Nat.lt_of_lt_of_le hwn (Nat.le_add_right n 71)))).trans k4
  have k5 := zal_e1 (zgs (gI_X3_init (zal (zgs (gI_X3_init (zal (zgs (gI_X3_init (zal (zgs (gI_X3_init (zal (zgs (gI_X3_init (zal (zgs (zal (g) n (3, 12, zNo)) w 0 n) (n + 1) (7, 0, zNo)) (n + 1) (n + 2)) n 0 (n + 1)) (n + 15) (7, 0, zNo)) (n + 15) (n + 16)) n 1 (n + 15)) (n + 29) (7, 0, zNo)) (n + 29) (n + 30)) n 2 (n + 29)) (n + 43) (7, 0, zNo)) (n + 43) (n + 44)) n 3 (n + 43)) (n + 57) (7, 0, zNo)) (n + 57) (n + 58)) n 4 (n + 57)) (n + 71) (7, 0, zNo)
  replace hZ : H.size = b + (n + 72) := hZ
  refine lv_dup hx hb dX0_init_39 rfl ?_
  refine z_cI (As := []) C0 hK2 hml hl.1 hW hS hZ hA (c_X3_init l D A b _ _ (n + 71)  (n + 72) k5 (Nat.add_lt_add_left (show 71 < 72 by decide) n)) yi_X0_22 ⟨Nat.le_of_ble_eq_true rfl, Nat.le_of_ble_eq_true rfl⟩ ⟨Nat.le_of_ble_eq_true rfl, Nat.le_of_ble_eq_true rfl⟩ rfl rfl (Nat.le_of_ble_eq_true rfl) dX0_init_40 (fun H locs hW hS hZ => ?_)
  replace kw := (gI_X3_init_1 _ (n + 71) (n + 72) (Nat.lt_of_lt_of_le hwn (Nat.le_add_right n 72))).trans kw
  replace k2 := (gI_X3_init_1 _ (n + 71) (n + 72) (show n < n + 72 from Nat.lt_add_of_pos_right (by decide))).trans k2
  replace k3 := (gI_X3_init_2 _ (n + 71) (n + 72) (show n < n + 72 from Nat.lt_add_of_pos_right (by decide))).trans k3
  replace k4 := (gI_X3_init_3 _ (n + 71) (n + 72) _ (Nat.lt_of_lt_of_le hwn (Nat.le_add_right n 72)) (Nat.ne_of_lt (Nat.lt_of_lt_of_le hwn (Nat.le_add_right n 71)))).trans k4
  replace k5 := (gI_X3_init_1 _ (n + 71) (n + 72) (Nat.add_lt_add_left (show 71 < 72 by decide) n)).trans k5
  replace hZ : H.size = b + (n + 85) := hZ
  refine z_aastN (N := 12) C0 hW hS hZ k2 k3 k5 (by decide) (k := 5) (by decide) dX0_init_43 (fun H locs hW hS hZ => ?_)
  replace kw := (zgs_1 _ n 5 (n + 71) _).trans kw
  replace k2 := (zgs_1 _ n 5 (n + 71) _).trans k2
  replace k3 := (zgs_2 _ n 5 (n + 71) _).trans k3
  replace k4 := (zgs_r (r := n) _ 5 (n + 71) _ (Nat.ne_of_lt hwn)).trans k4
  refine lv_iinc (v := (6 : Int32)) (lv' := [(1, .int (6 : Int32)), (0, .ref (b + w))]) hx hb dX0_init_44 hl (k := 0) rfl rfl (by decide) rfl (fun ls hl => ?_)
  refine lv_goto (tgt := 25) hx hb dX0_init_47 (by decide) ?_
  refine lv_iload_n hx hb dX0_init_25 rfl (lv_at hl 0 rfl) ?_
  refine lv_bipush (v := (12 : Int32)) hx hb dX0_init_26 (by decide) ?_
  refine lv_icmp_ge (tgt := 50) hx hb dX0_init_28 (by decide) (fun hc => absurd hc (by decide)) (fun hc => ?_)
  clear hc
  refine lv_aload_n hx hb dX0_init_31 rfl (lv_at hl 1 rfl) ?_
  refine z_getr (o := n) C0 hW fl_X0_11 kw rfl k4 dX0_init_32 ?_
  refine lv_iload_n hx hb dX0_init_35 rfl (lv_at hl 0 rfl) ?_
  refine z_newO C0 hW hS hA hZ nw_X0_9 ⟨Nat.le_of_ble_eq_true rfl, Nat.le_of_ble_eq_true rfl⟩ dX0_init_36 (fun H hW hS hZ => ?_)
  replace kw := (zal_n1 _ (7, 0, zNo) (Nat.ne_of_lt (Nat.lt_of_lt_of_le hwn (Nat.le_add_right n 85)))).trans kw
  replace k2 := (zal_n1 _ (7, 0, zNo) (Nat.ne_of_lt (show n < n + 85 from Nat.lt_add_of_pos_right (by decide)))).trans k2
  replace k3 := (zal_n2 _ (7, 0, zNo) (Nat.ne_of_lt (show n < n + 85 from Nat.lt_add_of_pos_right (by decide)))).trans k3
  replace k4 := (zal_n3 _ _ (7, 0, zNo) (Nat.ne_of_lt (Nat.lt_of_lt_of_le hwn (Nat.le_add_right n 85)))).trans k4
  have k5 := zal_e1 (zgs (gI_X3_init (zal (zgs (gI_X3_init (zal (zgs (gI_X3_init (zal (zgs (gI_X3_init (zal (zgs (gI_X3_init (zal (zgs (gI_X3_init (zal (zgs (zal (g) n (3, 12, zNo)) w 0 n) (n + 1) (7, 0, zNo)) (n + 1) (n + 2)) n 0 (n + 1)) (n + 15) (7, 0, zNo)) (n + 15) (n + 16)) n 1 (n + 15)) (n + 29) (7, 0, zNo)) (n + 29) (n + 30)) n 2 (n + 29)) (n + 43) (7, 0, zNo)) (n + 43) (n + 44)) n 3 (n + 43)) (n + 57) (7, 0, zNo)) (n + 57) (n + 58)) n 4 (n + 57)) (n + 71) (7, 0, zNo)) (n + 71) (n + 72)) n 5 (n + 71)) (n + 85) (7, 0, zNo)
  replace hZ : H.size = b + (n + 86) := hZ
  refine lv_dup hx hb dX0_init_39 rfl ?_
  refine z_cI (As := []) C0 hK2 hml hl.1 hW hS hZ hA (c_X3_init l D A b _ _ (n + 85)  (n + 86) k5 (Nat.add_lt_add_left (show 85 < 86 by decide) n)) yi_X0_22 ⟨Nat.le_of_ble_eq_true rfl, Nat.le_of_ble_eq_true rfl⟩ ⟨Nat.le_of_ble_eq_true rfl, Nat.le_of_ble_eq_true rfl⟩ rfl rfl (Nat.le_of_ble_eq_true rfl) dX0_init_40 (fun H locs hW hS hZ => ?_)
  replace kw := (gI_X3_init_1 _ (n + 85) (n + 86) (Nat.lt_of_lt_of_le hwn (Nat.le_add_right n 86))).trans kw
  replace k2 := (gI_X3_init_1 _ (n + 85) (n + 86) (show n < n + 86 from Nat.lt_add_of_pos_right (by decide))).trans k2
  replace k3 := (gI_X3_init_2 _ (n + 85) (n + 86) (show n < n + 86 from Nat.lt_add_of_pos_right (by decide))).trans k3
  replace k4 := (gI_X3_init_3 _ (n + 85) (n + 86) _ (Nat.lt_of_lt_of_le hwn (Nat.le_add_right n 86)) (Nat.ne_of_lt (Nat.lt_of_lt_of_le hwn (Nat.le_add_right n 85)))).trans k4
  replace k5 := (gI_X3_init_1 _ (n + 85) (n + 86) (Nat.add_lt_add_left (show 85 < 86 by decide) n)).trans k5
  replace hZ : H.size = b + (n + 99) := hZ
  refine z_aastN (N := 12) C0 hW hS hZ k2 k3 k5 (by decide) (k := 6) (by decide) dX0_init_43 (fun H locs hW hS hZ => ?_)
  replace kw := (zgs_1 _ n 6 (n + 85) _).trans kw
  replace k2 := (zgs_1 _ n 6 (n + 85) _).trans k2
  replace k3 := (zgs_2 _ n 6 (n + 85) _).trans k3
  replace k4 := (zgs_r (r := n) _ 6 (n + 85) _ (Nat.ne_of_lt hwn)).trans k4
  refine lv_iinc (v := (7 : Int32)) (lv' := [(1, .int (7 : Int32)), (0, .ref (b + w))]) hx hb dX0_init_44 hl (k := 0) rfl rfl (by decide) rfl (fun ls hl => ?_)
  refine lv_goto (tgt := 25) hx hb dX0_init_47 (by decide) ?_
  refine lv_iload_n hx hb dX0_init_25 rfl (lv_at hl 0 rfl) ?_
  refine lv_bipush (v := (12 : Int32)) hx hb dX0_init_26 (by decide) ?_
  refine lv_icmp_ge (tgt := 50) hx hb dX0_init_28 (by decide) (fun hc => absurd hc (by decide)) (fun hc => ?_)
  clear hc
  refine lv_aload_n hx hb dX0_init_31 rfl (lv_at hl 1 rfl) ?_
  refine z_getr (o := n) C0 hW fl_X0_11 kw rfl k4 dX0_init_32 ?_
  refine lv_iload_n hx hb dX0_init_35 rfl (lv_at hl 0 rfl) ?_
  refine z_newO C0 hW hS hA hZ nw_X0_9 ⟨Nat.le_of_ble_eq_true rfl, Nat.le_of_ble_eq_true rfl⟩ dX0_init_36 (fun H hW hS hZ => ?_)
  replace kw := (zal_n1 _ (7, 0, zNo) (Nat.ne_of_lt (Nat.lt_of_lt_of_le hwn (Nat.le_add_right n 99)))).trans kw
  replace k2 := (zal_n1 _ (7, 0, zNo) (Nat.ne_of_lt (show n < n + 99 from Nat.lt_add_of_pos_right (by decide)))).trans k2
  replace k3 := (zal_n2 _ (7, 0, zNo) (Nat.ne_of_lt (show n < n + 99 from Nat.lt_add_of_pos_right (by decide)))).trans k3
  replace k4 := (zal_n3 _ _ (7, 0, zNo) (Nat.ne_of_lt (Nat.lt_of_lt_of_le hwn (Nat.le_add_right n 99)))).trans k4
  have k5 := zal_e1 (zgs (gI_X3_init (zal (zgs (gI_X3_init (zal (zgs (gI_X3_init (zal (zgs (gI_X3_init (zal (zgs (gI_X3_init (zal (zgs (gI_X3_init (zal (zgs (gI_X3_init (zal (zgs (zal (g) n (3, 12, zNo)) w 0 n) (n + 1) (7, 0, zNo)) (n + 1) (n + 2)) n 0 (n + 1)) (n + 15) (7, 0, zNo)) (n + 15) (n + 16)) n 1 (n + 15)) (n + 29) (7, 0, zNo)) (n + 29) (n + 30)) n 2 (n + 29)) (n + 43) (7, 0, zNo)) (n + 43) (n + 44)) n 3 (n + 43)) (n + 57) (7, 0, zNo)) (n + 57) (n + 58)) n 4 (n + 57)) (n + 71) (7, 0, zNo)) (n + 71) (n + 72)) n 5 (n + 71)) (n + 85) (7, 0, zNo)) (n + 85) (n + 86)) n 6 (n + 85)) (n + 99) (7, 0, zNo)
  replace hZ : H.size = b + (n + 100) := hZ
  refine lv_dup hx hb dX0_init_39 rfl ?_
  refine z_cI (As := []) C0 hK2 hml hl.1 hW hS hZ hA (c_X3_init l D A b _ _ (n + 99)  (n + 100) k5 (Nat.add_lt_add_left (show 99 < 100 by decide) n)) yi_X0_22 ⟨Nat.le_of_ble_eq_true rfl, Nat.le_of_ble_eq_true rfl⟩ ⟨Nat.le_of_ble_eq_true rfl, Nat.le_of_ble_eq_true rfl⟩ rfl rfl (Nat.le_of_ble_eq_true rfl) dX0_init_40 (fun H locs hW hS hZ => ?_)
  replace kw := (gI_X3_init_1 _ (n + 99) (n + 100) (Nat.lt_of_lt_of_le hwn (Nat.le_add_right n 100))).trans kw
  replace k2 := (gI_X3_init_1 _ (n + 99) (n + 100) (show n < n + 100 from Nat.lt_add_of_pos_right (by decide))).trans k2
  replace k3 := (gI_X3_init_2 _ (n + 99) (n + 100) (show n < n + 100 from Nat.lt_add_of_pos_right (by decide))).trans k3
  replace k4 := (gI_X3_init_3 _ (n + 99) (n + 100) _ (Nat.lt_of_lt_of_le hwn (Nat.le_add_right n 100)) (Nat.ne_of_lt (Nat.lt_of_lt_of_le hwn (Nat.le_add_right n 99)))).trans k4
  replace k5 := (gI_X3_init_1 _ (n + 99) (n + 100) (Nat.add_lt_add_left (show 99 < 100 by decide) n)).trans k5
  replace hZ : H.size = b + (n + 113) := hZ
  refine z_aastN (N := 12) C0 hW hS hZ k2 k3 k5 (by decide) (k := 7) (by decide) dX0_init_43 (fun H locs hW hS hZ => ?_)
  replace kw := (zgs_1 _ n 7 (n + 99) _).trans kw
  replace k2 := (zgs_1 _ n 7 (n + 99) _).trans k2
  replace k3 := (zgs_2 _ n 7 (n + 99) _).trans k3
  replace k4 := (zgs_r (r := n) _ 7 (n + 99) _ (Nat.ne_of_lt hwn)).trans k4
  refine lv_iinc (v := (8 : Int32)) (lv' := [(1, .int (8 : Int32)), (0, .ref (b + w))]) hx hb dX0_init_44 hl (k := 0) rfl rfl (by decide) rfl (fun ls hl => ?_)
  refine lv_goto (tgt := 25) hx hb dX0_init_47 (by decide) ?_
  refine lv_iload_n hx hb dX0_init_25 rfl (lv_at hl 0 rfl) ?_
  refine lv_bipush (v := (12 : Int32)) hx hb dX0_init_26 (by decide) ?_
  refine lv_icmp_ge (tgt := 50) hx hb dX0_init_28 (by decide) (fun hc => absurd hc (by decide)) (fun hc => ?_)
  clear hc
  refine lv_aload_n hx hb dX0_init_31 rfl (lv_at hl 1 rfl) ?_
  refine z_getr (o := n) C0 hW fl_X0_11 kw rfl k4 dX0_init_32 ?_
  refine lv_iload_n hx hb dX0_init_35 rfl (lv_at hl 0 rfl) ?_
  refine z_newO C0 hW hS hA hZ nw_X0_9 ⟨Nat.le_of_ble_eq_true rfl, Nat.le_of_ble_eq_true rfl⟩ dX0_init_36 (fun H hW hS hZ => ?_)
  replace kw := (zal_n1 _ (7, 0, zNo) (Nat.ne_of_lt (Nat.lt_of_lt_of_le hwn (Nat.le_add_right n 113)))).trans kw
  replace k2 := (zal_n1 _ (7, 0, zNo) (Nat.ne_of_lt (show n < n + 113 from Nat.lt_add_of_pos_right (by decide)))).trans k2
  replace k3 := (zal_n2 _ (7, 0, zNo) (Nat.ne_of_lt (show n < n + 113 from Nat.lt_add_of_pos_right (by decide)))).trans k3
  replace k4 := (zal_n3 _ _ (7, 0, zNo) (Nat.ne_of_lt (Nat.lt_of_lt_of_le hwn (Nat.le_add_right n 113)))).trans k4
  have k5 := zal_e1 (zgs (gI_X3_init (zal (zgs (gI_X3_init (zal (zgs (gI_X3_init (zal (zgs (gI_X3_init (zal (zgs (gI_X3_init (zal (zgs (gI_X3_init (zal (zgs (gI_X3_init (zal (zgs (gI_X3_init (zal (zgs (zal (g) n (3, 12, zNo)) w 0 n) (n + 1) (7, 0, zNo)) (n + 1) (n + 2)) n 0 (n + 1)) (n + 15) (7, 0, zNo)) (n + 15) (n + 16)) n 1 (n + 15)) (n + 29) (7, 0, zNo)) (n + 29) (n + 30)) n 2 (n + 29)) (n + 43) (7, 0, zNo)) (n + 43) (n + 44)) n 3 (n + 43)) (n + 57) (7, 0, zNo)) (n + 57) (n + 58)) n 4 (n + 57)) (n + 71) (7, 0, zNo)) (n + 71) (n + 72)) n 5 (n + 71)) (n + 85) (7, 0, zNo)) (n + 85) (n + 86)) n 6 (n + 85)) (n + 99) (7, 0, zNo)) (n + 99) (n + 100)) n 7 (n + 99)) (n + 113) (7, 0, zNo)
  replace hZ : H.size = b + (n + 114) := hZ
  refine lv_dup hx hb dX0_init_39 rfl ?_
  refine z_cI (As := []) C0 hK2 hml hl.1 hW hS hZ hA (c_X3_init l D A b _ _ (n + 113)  (n + 114) k5 (Nat.add_lt_add_left (show 113 < 114 by decide) n)) yi_X0_22 ⟨Nat.le_of_ble_eq_true rfl, Nat.le_of_ble_eq_true rfl⟩ ⟨Nat.le_of_ble_eq_true rfl, Nat.le_of_ble_eq_true rfl⟩ rfl rfl (Nat.le_of_ble_eq_true rfl) dX0_init_40 (fun H locs hW hS hZ => ?_)
  replace kw := (gI_X3_init_1 _ (n + 113) (n + 114) (Nat.lt_of_lt_of_le hwn (Nat.le_add_right n 114))).trans kw
  replace k2 := (gI_X3_init_1 _ (n + 113) (n + 114) (show n < n + 114 from Nat.lt_add_of_pos_right (by decide))).trans k2
  replace k3 := (gI_X3_init_2 _ (n + 113) (n + 114) (show n < n + 114 from Nat.lt_add_of_pos_right (by decide))).trans k3
  replace k4 := (gI_X3_init_3 _ (n + 113) (n + 114) _ (Nat.lt_of_lt_of_le hwn (Nat.le_add_right n 114)) (Nat.ne_of_lt (Nat.lt_of_lt_of_le hwn (Nat.le_add_right n 113)))).trans k4
  replace k5 := (gI_X3_init_1 _ (n + 113) (n + 114) (Nat.add_lt_add_left (show 113 < 114 by decide) n)).trans k5
  replace hZ : H.size = b + (n + 127) := hZ
  refine z_aastN (N := 12) C0 hW hS hZ k2 k3 k5 (by decide) (k := 8) (by decide) dX0_init_43 (fun H locs hW hS hZ => ?_)
  replace kw := (zgs_1 _ n 8 (n + 113) _).trans kw
  replace k2 := (zgs_1 _ n 8 (n + 113) _).trans k2
  replace k3 := (zgs_2 _ n 8 (n + 113) _).trans k3
  replace k4 := (zgs_r (r := n) _ 8 (n + 113) _ (Nat.ne_of_lt hwn)).trans k4
  refine lv_iinc (v := (9 : Int32)) (lv' := [(1, .int (9 : Int32)), (0, .ref (b + w))]) hx hb dX0_init_44 hl (k := 0) rfl rfl (by decide) rfl (fun ls hl => ?_)
  refine lv_goto (tgt := 25) hx hb dX0_init_47 (by decide) ?_
  refine lv_iload_n hx hb dX0_init_25 rfl (lv_at hl 0 rfl) ?_
  refine lv_bipush (v := (12 : Int32)) hx hb dX0_init_26 (by decide) ?_
  refine lv_icmp_ge (tgt := 50) hx hb dX0_init_28 (by decide) (fun hc => absurd hc (by decide)) (fun hc => ?_)
  clear hc
  refine lv_aload_n hx hb dX0_init_31 rfl (lv_at hl 1 rfl) ?_
  refine z_getr (o := n) C0 hW fl_X0_11 kw rfl k4 dX0_init_32 ?_
  refine lv_iload_n hx hb dX0_init_35 rfl (lv_at hl 0 rfl) ?_
  refine z_newO C0 hW hS hA hZ nw_X0_9 ⟨Nat.le_of_ble_eq_true rfl, Nat.le_of_ble_eq_true rfl⟩ dX0_init_36 (fun H hW hS hZ => ?_)
  replace kw := (zal_n1 _ (7, 0, zNo) (Nat.ne_of_lt (Nat.lt_of_lt_of_le hwn (Nat.le_add_right n 127)))).trans kw
  replace k2 := (zal_n1 _ (7, 0, zNo) (Nat.ne_of_lt (show n < n + 127 from Nat.lt_add_of_pos_right (by decide)))).trans k2
  replace k3 := (zal_n2 _ (7, 0, zNo) (Nat.ne_of_lt (show n < n + 127 from Nat.lt_add_of_pos_right (by decide)))).trans k3
  replace k4 := (zal_n3 _ _ (7, 0, zNo) (Nat.ne_of_lt (Nat.lt_of_lt_of_le hwn (Nat.le_add_right n 127)))).trans k4
  have k5 := zal_e1 (zgs (gI_X3_init (zal (zgs (gI_X3_init (zal (zgs (gI_X3_init (zal (zgs (gI_X3_init (zal (zgs (gI_X3_init (zal (zgs (gI_X3_init (zal (zgs (gI_X3_init (zal (zgs (gI_X3_init (zal (zgs (gI_X3_init (zal (zgs (zal (g) n (3, 12, zNo)) w 0 n) (n + 1) (7, 0, zNo)) (n + 1) (n + 2)) n 0 (n + 1)) (n + 15) (7, 0, zNo)) (n + 15) (n + 16)) n 1 (n + 15)) (n + 29) (7, 0, zNo)) (n + 29) (n + 30)) n 2 (n + 29)) (n + 43) (7, 0, zNo)) (n + 43) (n + 44)) n 3 (n + 43)) (n + 57) (7, 0, zNo)) (n + 57) (n + 58)) n 4 (n + 57)) (n + 71) (7, 0, zNo)) (n + 71) (n + 72)) n 5 (n + 71)) (n + 85) (7, 0, zNo)) (n + 85) (n + 86)) n 6 (n + 85)) (n + 99) (7, 0, zNo)) (n + 99) (n + 100)) n 7 (n + 99)) (n + 113) (7, 0, zNo)) (n + 113) (n + 114)) n 8 (n + 113)) (n + 127) (7, 0, zNo)
  replace hZ : H.size = b + (n + 128) := hZ
  refine lv_dup hx hb dX0_init_39 rfl ?_
  refine z_cI (As := []) C0 hK2 hml hl.1 hW hS hZ hA (c_X3_init l D A b _ _ (n + 127)  (n + 128) k5 (Nat.add_lt_add_left (show 127 < 128 by decide) n)) yi_X0_22 ⟨Nat.le_of_ble_eq_true rfl, Nat.le_of_ble_eq_true rfl⟩ ⟨Nat.le_of_ble_eq_true rfl, Nat.le_of_ble_eq_true rfl⟩ rfl rfl (Nat.le_of_ble_eq_true rfl) dX0_init_40 (fun H locs hW hS hZ => ?_)
  replace kw := (gI_X3_init_1 _ (n + 127) (n + 128) (Nat.lt_of_lt_of_le hwn (Nat.le_add_right n 128))).trans kw
  replace k2 := (gI_X3_init_1 _ (n + 127) (n + 128) (show n < n + 128 from Nat.lt_add_of_pos_right (by decide))).trans k2
  replace k3 := (gI_X3_init_2 _ (n + 127) (n + 128) (show n < n + 128 from Nat.lt_add_of_pos_right (by decide))).trans k3
  replace k4 := (gI_X3_init_3 _ (n + 127) (n + 128) _ (Nat.lt_of_lt_of_le hwn (Nat.le_add_right n 128)) (Nat.ne_of_lt (Nat.lt_of_lt_of_le hwn (Nat.le_add_right n 127)))).trans k4
  replace k5 := (gI_X3_init_1 _ (n + 127) (n + 128) (Nat.add_lt_add_left (show 127 < 128 by decide) n)).trans k5
  replace hZ : H.size = b + (n + 141) := hZ
  refine z_aastN (N := 12) C0 hW hS hZ k2 k3 k5 (by decide) (k := 9) (by decide) dX0_init_43 (fun H locs hW hS hZ => ?_)
  replace kw := (zgs_1 _ n 9 (n + 127) _).trans kw
  replace k2 := (zgs_1 _ n 9 (n + 127) _).trans k2
  replace k3 := (zgs_2 _ n 9 (n + 127) _).trans k3
  replace k4 := (zgs_r (r := n) _ 9 (n + 127) _ (Nat.ne_of_lt hwn)).trans k4
  refine lv_iinc (v := (10 : Int32)) (lv' := [(1, .int (10 : Int32)), (0, .ref (b + w))]) hx hb dX0_init_44 hl (k := 0) rfl rfl (by decide) rfl (fun ls hl => ?_)
  refine lv_goto (tgt := 25) hx hb dX0_init_47 (by decide) ?_
  refine lv_iload_n hx hb dX0_init_25 rfl (lv_at hl 0 rfl) ?_
  refine lv_bipush (v := (12 : Int32)) hx hb dX0_init_26 (by decide) ?_
  refine lv_icmp_ge (tgt := 50) hx hb dX0_init_28 (by decide) (fun hc => absurd hc (by decide)) (fun hc => ?_)
  clear hc
  refine lv_aload_n hx hb dX0_init_31 rfl (lv_at hl 1 rfl) ?_
  refine z_getr (o := n) C0 hW fl_X0_11 kw rfl k4 dX0_init_32 ?_
  refine lv_iload_n hx hb dX0_init_35 rfl (lv_at hl 0 rfl) ?_
  refine z_newO C0 hW hS hA hZ nw_X0_9 ⟨Nat.le_of_ble_eq_true rfl, Nat.le_of_ble_eq_true rfl⟩ dX0_init_36 (fun H hW hS hZ => ?_)
  replace kw := (zal_n1 _ (7, 0, zNo) (Nat.ne_of_lt (Nat.lt_of_lt_of_le hwn (Nat.le_add_right n 141)))).trans kw
  replace k2 := (zal_n1 _ (7, 0, zNo) (Nat.ne_of_lt (show n < n + 141 from Nat.lt_add_of_pos_right (by decide)))).trans k2
  replace k3 := (zal_n2 _ (7, 0, zNo) (Nat.ne_of_lt (show n < n + 141 from Nat.lt_add_of_pos_right (by decide)))).trans k3
  replace k4 := (zal_n3 _ _ (7, 0, zNo) (Nat.ne_of_lt (Nat.lt_of_lt_of_le hwn (Nat.le_add_right n 141)))).trans k4
  have k5 := zal_e1 (zgs (gI_X3_init (zal (zgs (gI_X3_init (zal (zgs (gI_X3_init (zal (zgs (gI_X3_init (zal (zgs (gI_X3_init (zal (zgs (gI_X3_init (zal (zgs (gI_X3_init (zal (zgs (gI_X3_init (zal (zgs (gI_X3_init (zal (zgs (gI_X3_init (zal (zgs (zal (g) n (3, 12, zNo)) w 0 n) (n + 1) (7, 0, zNo)) (n + 1) (n + 2)) n 0 (n + 1)) (n + 15) (7, 0, zNo)) (n + 15) (n + 16)) n 1 (n + 15)) (n + 29) (7, 0, zNo)) (n + 29) (n + 30)) n 2 (n + 29)) (n + 43) (7, 0, zNo)) (n + 43) (n + 44)) n 3 (n + 43)) (n + 57) (7, 0, zNo)) (n + 57) (n + 58)) n 4 (n + 57)) (n + 71) (7, 0, zNo)) (n + 71) (n + 72)) n 5 (n + 71)) (n + 85) (7, 0, zNo)) (n + 85) (n + 86)) n 6 (n + 85)) (n + 99) (7, 0, zNo)) (n + 99) (n + 100)) n 7 (n + 99)) (n + 113) (7, 0, zNo)) (n + 113) (n + 114)) n 8 (n + 113)) (n + 127) (7, 0, zNo)) (n + 127) (n + 128)) n 9 (n + 127)) (n + 141) (7, 0, zNo)
  replace hZ : H.size = b + (n + 142) := hZ
  refine lv_dup hx hb dX0_init_39 rfl ?_
  refine z_cI (As := []) C0 hK2 hml hl.1 hW hS hZ hA (c_X3_init l D A b _ _ (n + 141)  (n + 142) k5 (Nat.add_lt_add_left (show 141 < 142 by decide) n)) yi_X0_22 ⟨Nat.le_of_ble_eq_true rfl, Nat.le_of_ble_eq_true rfl⟩ ⟨Nat.le_of_ble_eq_true rfl, Nat.le_of_ble_eq_true rfl⟩ rfl rfl (Nat.le_of_ble_eq_true rfl) dX0_init_40 (fun H locs hW hS hZ => ?_)
  replace kw := (gI_X3_init_1 _ (n + 141) (n + 142) (Nat.lt_of_lt_of_le hwn (Nat.le_add_right n 142))).trans kw
  replace k2 := (gI_X3_init_1 _ (n + 141) (n + 142) (show n < n + 142 from Nat.lt_add_of_pos_right (by decide))).trans k2
  replace k3 := (gI_X3_init_2 _ (n + 141) (n + 142) (show n < n + 142 from Nat.lt_add_of_pos_right (by decide))).trans k3
  replace k4 := (gI_X3_init_3 _ (n + 141) (n + 142) _ (Nat.lt_of_lt_of_le hwn (Nat.le_add_right n 142)) (Nat.ne_of_lt (Nat.lt_of_lt_of_le hwn (Nat.le_add_right n 141)))).trans k4
  replace k5 := (gI_X3_init_1 _ (n + 141) (n + 142) (Nat.add_lt_add_left (show 141 < 142 by decide) n)).trans k5
  replace hZ : H.size = b + (n + 155) := hZ
  refine z_aastN (N := 12) C0 hW hS hZ k2 k3 k5 (by decide) (k := 10) (by decide) dX0_init_43 (fun H locs hW hS hZ => ?_)
  replace kw := (zgs_1 _ n 10 (n + 141) _).trans kw
  replace k2 := (zgs_1 _ n 10 (n + 141) _).trans k2
  replace k3 := (zgs_2 _ n 10 (n + 141) _).trans k3
  replace k4 := (zgs_r (r := n) _ 10 (n + 141) _ (Nat.ne_of_lt hwn)).trans k4
  refine lv_iinc (v := (11 : Int32)) (lv' := [(1, .int (11 : Int32)), (0, .ref (b + w))]) hx hb dX0_init_44 hl (k := 0) rfl rfl (by decide) rfl (fun ls hl => ?_)
  refine lv_goto (tgt := 25) hx hb dX0_init_47 (by decide) ?_
  refine lv_iload_n hx hb dX0_init_25 rfl (lv_at hl 0 rfl) ?_
  refine lv_bipush (v := (12 : Int32)) hx hb dX0_init_26 (by decide) ?_
  refine lv_icmp_ge (tgt := 50) hx hb dX0_init_28 (by decide) (fun hc => absurd hc (by decide)) (fun hc => ?_)
  clear hc
  refine lv_aload_n hx hb dX0_init_31 rfl (lv_at hl 1 rfl) ?_
  refine z_getr (o := n) C0 hW fl_X0_11 kw rfl k4 dX0_init_32 ?_
  refine lv_iload_n hx hb dX0_init_35 rfl (lv_at hl 0 rfl) ?_
  refine z_newO C0 hW hS hA hZ nw_X0_9 ⟨Nat.le_of_ble_eq_true rfl, Nat.le_of_ble_eq_true rfl⟩ dX0_init_36 (fun H hW hS hZ => ?_)
  replace kw := (zal_n1 _ (7, 0, zNo) (Nat.ne_of_lt (Nat.lt_of_lt_of_le hwn (Nat.le_add_right n 155)))).trans kw
  replace k2 := (zal_n1 _ (7, 0, zNo) (Nat.ne_of_lt (show n < n + 155 from Nat.lt_add_of_pos_right (by decide)))).trans k2
  replace k3 := (zal_n2 _ (7, 0, zNo) (Nat.ne_of_lt (show n < n + 155 from Nat.lt_add_of_pos_right (by decide)))).trans k3
  replace k4 := (zal_n3 _ _ (7, 0, zNo) (Nat.ne_of_lt (Nat.lt_of_lt_of_le hwn (Nat.le_add_right n 155)))).trans k4
  have k5 := zal_e1 (zgs (gI_X3_init (zal (zgs (gI_X3_init (zal (zgs (gI_X3_init (zal (zgs (gI_X3_init (zal (zgs (gI_X3_init (zal (zgs (gI_X3_init (zal (zgs (gI_X3_init (zal (zgs (gI_X3_init (zal (zgs (gI_X3_init (zal (zgs (gI_X3_init (zal (zgs (gI_X3_init (zal (zgs (zal (g) n (3, 12, zNo)) w 0 n) (n + 1) (7, 0, zNo)) (n + 1) (n + 2)) n 0 (n + 1)) (n + 15) (7, 0, zNo)) (n + 15) (n + 16)) n 1 (n + 15)) (n + 29) (7, 0, zNo)) (n + 29) (n + 30)) n 2 (n + 29)) (n + 43) (7, 0, zNo)) (n + 43) (n + 44)) n 3 (n + 43)) (n + 57) (7, 0, zNo)) (n + 57) (n + 58)) n 4 (n + 57)) (n + 71) (7, 0, zNo)) (n + 71) (n + 72)) n 5 (n + 71)) (n + 85) (7, 0, zNo)) (n + 85) (n + 86)) n 6 (n + 85)) (n + 99) (7, 0, zNo)) (n + 99) (n + 100)) n 7 (n + 99)) (n + 113) (7, 0, zNo)) (n + 113) (n + 114)) n 8 (n + 113)) (n + 127) (7, 0, zNo)) (n + 127) (n + 128)) n 9 (n + 127)) (n + 141) (7, 0, zNo)) (n + 141) (n + 142)) n 10 (n + 141)) (n + 155) (7, 0, zNo)
  replace hZ : H.size = b + (n + 156) := hZ
  refine lv_dup hx hb dX0_init_39 rfl ?_
  refine z_cI (As := []) C0 hK2 hml hl.1 hW hS hZ hA (c_X3_init l D A b _ _ (n + 155)  (n + 156) k5 (Nat.add_lt_add_left (show 155 < 156 by decide) n)) yi_X0_22 ⟨Nat.le_of_ble_eq_true rfl, Nat.le_of_ble_eq_true rfl⟩ ⟨Nat.le_of_ble_eq_true rfl, Nat.le_of_ble_eq_true rfl⟩ rfl rfl (Nat.le_of_ble_eq_true rfl) dX0_init_40 (fun H locs hW hS hZ => ?_)
  replace kw := (gI_X3_init_1 _ (n + 155) (n + 156) (Nat.lt_of_lt_of_le hwn (Nat.le_add_right n 156))).trans kw
  replace k2 := (gI_X3_init_1 _ (n + 155) (n + 156) (show n < n + 156 from Nat.lt_add_of_pos_right (by decide))).trans k2
  replace k3 := (gI_X3_init_2 _ (n + 155) (n + 156) (show n < n + 156 from Nat.lt_add_of_pos_right (by decide))).trans k3
  replace k4 := (gI_X3_init_3 _ (n + 155) (n + 156) _ (Nat.lt_of_lt_of_le hwn (Nat.le_add_right n 156)) (Nat.ne_of_lt (Nat.lt_of_lt_of_le hwn (Nat.le_add_right n 155)))).trans k4
  replace k5 := (gI_X3_init_1 _ (n + 155) (n + 156) (Nat.add_lt_add_left (show 155 < 156 by decide) n)).trans k5
  replace hZ : H.size = b + (n + 169) := hZ
  refine z_aastN (N := 12) C0 hW hS hZ k2 k3 k5 (by decide) (k := 11) (by decide) dX0_init_43 (fun H locs hW hS hZ => ?_)
  replace kw := (zgs_1 _ n 11 (n + 155) _).trans kw
  replace k2 := (zgs_1 _ n 11 (n + 155) _).trans k2
  replace k3 := (zgs_2 _ n 11 (n + 155) _).trans k3
  replace k4 := (zgs_r (r := n) _ 11 (n + 155) _ (Nat.ne_of_lt hwn)).trans k4
  refine lv_iinc (v := (12 : Int32)) (lv' := [(1, .int (12 : Int32)), (0, .ref (b + w))]) hx hb dX0_init_44 hl (k := 0) rfl rfl (by decide) rfl (fun ls hl => ?_)
  refine lv_goto (tgt := 25) hx hb dX0_init_47 (by decide) ?_
  refine lv_iload_n hx hb dX0_init_25 rfl (lv_at hl 0 rfl) ?_
  refine lv_bipush (v := (12 : Int32)) hx hb dX0_init_26 (by decide) ?_
  refine lv_icmp_ge (tgt := 50) hx hb dX0_init_28 (by decide) (fun hc => ?_) (fun hc => absurd (by decide) hc)
  clear hc
  exact z_vretN C0 hr hlk hW hS hZ dX0_init_50
theorem gI_X0_init_1 (g : zG) (w : Nat)  (n : Nat) {r : Nat} (h : r < n) : (gI_X0_init g w n r).1 = (g r).1 := (zgs_1 _ _ _ _ _).trans ((gI_X3_init_1 _ (n + 155) (n + 156) (Nat.lt_of_lt_of_le h (Nat.le_add_right n 156))).trans ((zal_n1 _ _ (Nat.ne_of_lt (Nat.lt_of_lt_of_le h (Nat.le_add_right n 155)))).trans ((zgs_1 _ _ _ _ _).trans ((gI_X3_init_1 _ (n + 141) (n + 142) (Nat.lt_of_lt_of_le h (Nat.le_add_right n 142))).trans ((zal_n1 _ _ (Nat.ne_of_lt (Nat.lt_of_lt_of_le h (Nat.le_add_right n 141)))).trans ((zgs_1 _ _ _ _ _).trans ((gI_X3_init_1 _ (n + 127) (n + 128) (Nat.lt_of_lt_of_le h (Nat.le_add_right n 128))).trans ((zal_n1 _ _ (Nat.ne_of_lt (Nat.lt_of_lt_of_le h (Nat.le_add_right n 127)))).trans ((zgs_1 _ _ _ _ _).trans ((gI_X3_init_1 _ (n + 113) (n + 114) (Nat.lt_of_lt_of_le h (Nat.le_add_right n 114))).trans ((zal_n1 _ _ (Nat.ne_of_lt (Nat.lt_of_lt_of_le h (Nat.le_add_right n 113)))).trans ((zgs_1 _ _ _ _ _).trans ((gI_X3_init_1 _ (n + 99) (n + 100) (Nat.lt_of_lt_of_le h (Nat.le_add_right n 100))).trans ((zal_n1 _ _ (Nat.ne_of_lt (Nat.lt_of_lt_of_le h (Nat.le_add_right n 99)))).trans ((zgs_1 _ _ _ _ _).trans ((gI_X3_init_1 _ (n + 85) (n + 86) (Nat.lt_of_lt_of_le h (Nat.le_add_right n 86))).trans ((zal_n1 _ _ (Nat.ne_of_lt (Nat.lt_of_lt_of_le h (Nat.le_add_right n 85)))).trans ((zgs_1 _ _ _ _ _).trans ((gI_X3_init_1 _ (n + 71) (n + 72) (Nat.lt_of_lt_of_le h (Nat.le_add_right n 72))).trans ((zal_n1 _ _ (Nat.ne_of_lt (Nat.lt_of_lt_of_le h (Nat.le_add_right n 71)))).trans ((zgs_1 _ _ _ _ _).trans ((gI_X3_init_1 _ (n + 57) (n + 58) (Nat.lt_of_lt_of_le h (Nat.le_add_right n 58))).trans ((zal_n1 _ _ (Nat.ne_of_lt (Nat.lt_of_lt_of_le h (Nat.le_add_right n 57)))).trans ((zgs_1 _ _ _ _ _).trans ((gI_X3_init_1 _ (n + 43) (n + 44) (Nat.lt_of_lt_of_le h (Nat.le_add_right n 44))).trans ((zal_n1 _ _ (Nat.ne_of_lt (Nat.lt_of_lt_of_le h (Nat.le_add_right n 43)))).trans ((zgs_1 _ _ _ _ _).trans ((gI_X3_init_1 _ (n + 29) (n + 30) (Nat.lt_of_lt_of_le h (Nat.le_add_right n 30))).trans ((zal_n1 _ _ (Nat.ne_of_lt (Nat.lt_of_lt_of_le h (Nat.le_add_right n 29)))).trans ((zgs_1 _ _ _ _ _).trans ((gI_X3_init_1 _ (n + 15) (n + 16) (Nat.lt_of_lt_of_le h (Nat.le_add_right n 16))).trans ((zal_n1 _ _ (Nat.ne_of_lt (Nat.lt_of_lt_of_le h (Nat.le_add_right n 15)))).trans ((zgs_1 _ _ _ _ _).trans ((gI_X3_init_1 _ (n + 1) (n + 2) (Nat.lt_of_lt_of_le h (Nat.le_add_right n 2))).trans ((zal_n1 _ _ (Nat.ne_of_lt (Nat.lt_of_lt_of_le h (Nat.le_add_right n 1)))).trans ((zgs_1 _ _ _ _ _).trans (zal_n1 _ _ (Nat.ne_of_lt h))))))))))))))))))))))))))))))))))))))
theorem gI_X0_init_2 (g : zG) (w : Nat)  (n : Nat) {r : Nat} (h : r < n) : (gI_X0_init g w n r).2.1 = (g r).2.1 := (zgs_2 _ _ _ _ _).trans ((gI_X3_init_2 _ (n + 155) (n + 156) (Nat.lt_of_lt_of_le h (Nat.le_add_right n 156))).trans ((zal_n2 _ _ (Nat.ne_of_lt (Nat.lt_of_lt_of_le h (Nat.le_add_right n 155)))).trans ((zgs_2 _ _ _ _ _).trans ((gI_X3_init_2 _ (n + 141) (n + 142) (Nat.lt_of_lt_of_le h (Nat.le_add_right n 142))).trans ((zal_n2 _ _ (Nat.ne_of_lt (Nat.lt_of_lt_of_le h (Nat.le_add_right n 141)))).trans ((zgs_2 _ _ _ _ _).trans ((gI_X3_init_2 _ (n + 127) (n + 128) (Nat.lt_of_lt_of_le h (Nat.le_add_right n 128))).trans ((zal_n2 _ _ (Nat.ne_of_lt (Nat.lt_of_lt_of_le h (Nat.le_add_right n 127)))).trans ((zgs_2 _ _ _ _ _).trans ((gI_X3_init_2 _ (n + 113) (n + 114) (Nat.lt_of_lt_of_le h (Nat.le_add_right n 114))).trans ((zal_n2 _ _ (Nat.ne_of_lt (Nat.lt_of_lt_of_le h (Nat.le_add_right n 113)))).trans ((zgs_2 _ _ _ _ _).trans ((gI_X3_init_2 _ (n + 99) (n + 100) (Nat.lt_of_lt_of_le h (Nat.le_add_right n 100))).trans ((zal_n2 _ _ (Nat.ne_of_lt (Nat.lt_of_lt_of_le h (Nat.le_add_right n 99)))).trans ((zgs_2 _ _ _ _ _).trans ((gI_X3_init_2 _ (n + 85) (n + 86) (Nat.lt_of_lt_of_le h (Nat.le_add_right n 86))).trans ((zal_n2 _ _ (Nat.ne_of_lt (Nat.lt_of_lt_of_le h (Nat.le_add_right n 85)))).trans ((zgs_2 _ _ _ _ _).trans ((gI_X3_init_2 _ (n + 71) (n + 72) (Nat.lt_of_lt_of_le h (Nat.le_add_right n 72))).trans ((zal_n2 _ _ (Nat.ne_of_lt (Nat.lt_of_lt_of_le h (Nat.le_add_right n 71)))).trans ((zgs_2 _ _ _ _ _).trans ((gI_X3_init_2 _ (n + 57) (n + 58) (Nat.lt_of_lt_of_le h (Nat.le_add_right n 58))).trans ((zal_n2 _ _ (Nat.ne_of_lt (Nat.lt_of_lt_of_le h (Nat.le_add_right n 57)))).trans ((zgs_2 _ _ _ _ _).trans ((gI_X3_init_2 _ (n + 43) (n + 44) (Nat.lt_of_lt_of_le h (Nat.le_add_right n 44))).trans ((zal_n2 _ _ (Nat.ne_of_lt (Nat.lt_of_lt_of_le h (Nat.le_add_right n 43)))).trans ((zgs_2 _ _ _ _ _).trans ((gI_X3_init_2 _ (n + 29) (n + 30) (Nat.lt_of_lt_of_le h (Nat.le_add_right n 30))).trans ((zal_n2 _ _ (Nat.ne_of_lt (Nat.lt_of_lt_of_le h (Nat.le_add_right n 29)))).trans ((zgs_2 _ _ _ _ _).trans ((gI_X3_init_2 _ (n + 15) (n + 16) (Nat.lt_of_lt_of_le h (Nat.le_add_right n 16))).trans ((zal_n2 _ _ (Nat.ne_of_lt (Nat.lt_of_lt_of_le h (Nat.le_add_right n 15)))).trans ((zgs_2 _ _ _ _ _).trans ((gI_X3_init_2 _ (n + 1) (n + 2) (Nat.lt_of_lt_of_le h (Nat.le_add_right n 2))).trans ((zal_n2 _ _ (Nat.ne_of_lt (Nat.lt_of_lt_of_le h (Nat.le_add_right n 1)))).trans ((zgs_2 _ _ _ _ _).trans (zal_n2 _ _ (Nat.ne_of_lt h))))))))))))))))))))))))))))))))))))))
theorem gI_X0_init_3 (g : zG) (w : Nat)  (n : Nat) {r : Nat} (j : Nat) (h : r < n) (hrw : r ≠ w) : (gI_X0_init g w n r).2.2 j = (g r).2.2 j := (zgs_r _ _ _ _ (Nat.ne_of_lt h)).trans ((gI_X3_init_3 _ (n + 155) (n + 156) _ (Nat.lt_of_lt_of_le h (Nat.le_add_right n 156)) (Nat.ne_of_lt (Nat.lt_of_lt_of_le h (Nat.le_add_right n 155)))).trans ((zal_n3 _ _ _ (Nat.ne_of_lt (Nat.lt_of_lt_of_le h (Nat.le_add_right n 155)))).trans ((zgs_r _ _ _ _ (Nat.ne_of_lt h)).trans ((gI_X3_init_3 _ (n + 141) (n + 142) _ (Nat.lt_of_lt_of_le h (Nat.le_add_right n 142)) (Nat.ne_of_lt (Nat.lt_of_lt_of_le h (Nat.le_add_right n 141)))).trans ((zal_n3 _ _ _ (Nat.ne_of_lt (Nat.lt_of_lt_of_le h (Nat.le_add_right n 141)))).trans ((zgs_r _ _ _ _ (Nat.ne_of_lt h)).trans ((gI_X3_init_3 _ (n + 127) (n + 128) _ (Nat.lt_of_lt_of_le h (Nat.le_add_right n 128)) (Nat.ne_of_lt (Nat.lt_of_lt_of_le h (Nat.le_add_right n 127)))).trans ((zal_n3 _ _ _ (Nat.ne_of_lt (Nat.lt_of_lt_of_le h (Nat.le_add_right n 127)))).trans ((zgs_r _ _ _ _ (Nat.ne_of_lt h)).trans ((gI_X3_init_3 _ (n + 113) (n + 114) _ (Nat.lt_of_lt_of_le h (Nat.le_add_right n 114)) (Nat.ne_of_lt (Nat.lt_of_lt_of_le h (Nat.le_add_right n 113)))).trans ((zal_n3 _ _ _ (Nat.ne_of_lt (Nat.lt_of_lt_of_le h (Nat.le_add_right n 113)))).trans ((zgs_r _ _ _ _ (Nat.ne_of_lt h)).trans ((gI_X3_init_3 _ (n + 99) (n + 100) _ (Nat.lt_of_lt_of_le h (Nat.le_add_right n 100)) (Nat.ne_of_lt (Nat.lt_of_lt_of_le h (Nat.le_add_right n 99)))).trans ((zal_n3 _ _ _ (Nat.ne_of_lt (Nat.lt_of_lt_of_le h (Nat.le_add_right n 99)))).trans ((zgs_r _ _ _ _ (Nat.ne_of_lt h)).trans ((gI_X3_init_3 _ (n + 85) (n + 86) _ (Nat.lt_of_lt_of_le h (Nat.le_add_right n 86)) (Nat.ne_of_lt (Nat.lt_of_lt_of_le h (Nat.le_add_right n 85)))).trans ((zal_n3 _ _ _ (Nat.ne_of_lt (Nat.lt_of_lt_of_le h (Nat.le_add_right n 85)))).trans ((zgs_r _ _ _ _ (Nat.ne_of_lt h)).trans ((gI_X3_init_3 _ (n + 71) (n + 72) _ (Nat.lt_of_lt_of_le h (Nat.le_add_right n 72)) (Nat.ne_of_lt (Nat.lt_of_lt_of_le h (Nat.le_add_right n 71)))).trans ((zal_n3 _ _ _ (Nat.ne_of_lt (Nat.lt_of_lt_of_le h (Nat.le_add_right n 71)))).trans ((zgs_r _ _ _ _ (Nat.ne_of_lt h)).trans ((gI_X3_init_3 _ (n + 57) (n + 58) _ (Nat.lt_of_lt_of_le h (Nat.le_add_right n 58)) (Nat.ne_of_lt (Nat.lt_of_lt_of_le h (Nat.le_add_right n 57)))).trans ((zal_n3 _ _ _ (Nat.ne_of_lt (Nat.lt_of_lt_of_le h (Nat.le_add_right n 57)))).trans ((zgs_r _ _ _ _ (Nat.ne_of_lt h)).trans ((gI_X3_init_3 _ (n + 43) (n + 44) _ (Nat.lt_of_lt_of_le h (Nat.le_add_right n 44)) (Nat.ne_of_lt (Nat.lt_of_lt_of_le h (Nat.le_add_right n 43)))).trans ((zal_n3 _ _ _ (Nat.ne_of_lt (Nat.lt_of_lt_of_le h (Nat.le_add_right n 43)))).trans ((zgs_r _ _ _ _ (Nat.ne_of_lt h)).trans ((gI_X3_init_3 _ (n + 29) (n + 30) _ (Nat.lt_of_lt_of_le h (Nat.le_add_right n 30)) (Nat.ne_of_lt (Nat.lt_of_lt_of_le h (Nat.le_add_right n 29)))).trans ((zal_n3 _ _ _ (Nat.ne_of_lt (Nat.lt_of_lt_of_le h (Nat.le_add_right n 29)))).trans ((zgs_r _ _ _ _ (Nat.ne_of_lt h)).trans ((gI_X3_init_3 _ (n + 15) (n + 16) _ (Nat.lt_of_lt_of_le h (Nat.le_add_right n 16)) (Nat.ne_of_lt (Nat.lt_of_lt_of_le h (Nat.le_add_right n 15)))).trans ((zal_n3 _ _ _ (Nat.ne_of_lt (Nat.lt_of_lt_of_le h (Nat.le_add_right n 15)))).trans ((zgs_r _ _ _ _ (Nat.ne_of_lt h)).trans ((gI_X3_init_3 _ (n + 1) (n + 2) _ (Nat.lt_of_lt_of_le h (Nat.le_add_right n 2)) (Nat.ne_of_lt (Nat.lt_of_lt_of_le h (Nat.le_add_right n 1)))).trans ((zal_n3 _ _ _ (Nat.ne_of_lt (Nat.lt_of_lt_of_le h (Nat.le_add_right n 1)))).trans ((zgs_r _ _ _ _ hrw).trans (zal_n3 _ _ _ (Nat.ne_of_lt h))))))))))))))))))))))))))))))))))))))
def gI_X10_init  : zG := zgs (gI_X3_init (zal (zgs (gI_X0_init (zal (zgs (gI_X2_init (zal (zgs (gI_X5_init (zal (zgs (gI_X1_init (zal (zgs (gI_X9_init (zal (zgs (gI_X9_init (zal (zgs (gI_X8_init (zal (zgs (gI_X7_init (zal (zal g00 0 (13, 0, zNo)) 1 (10, 0, zNo)) 1 2) 0 0 1) 3 (11, 0, zNo)) 3 1 4) 0 1 3) 6 (12, 0, zNo)) 6 7) 0 2 6) 17 (12, 0, zNo)) 17 18) 0 3 17) 28 (5, 0, zNo)) 28 3 17 29) 0 4 28) 29 (9, 0, zNo)) 29 3 30) 0 5 29) 36 (6, 0, zNo)) 36 37) 0 6 36) 38 (4, 0, zNo)) 38 39) 0 7 38) 208 (7, 0, zNo)) 208 209) 0 8 208
def uI_X10_init  : zU := z_up (z_up (z_up (uI_X3_init (zst (uI_X0_init (zst (uI_X2_init (zst (uI_X5_init (zst (uI_X1_init (zst (uI_X9_init (zst (uI_X9_init (zst (uI_X8_init (zst (uI_X7_init (zst (zst u00 0 zO0) 1 zO0) 1 2) 3 zO0) 3 1 4) 6 zO0) 6 7) 17 zO0) 17 18) 28 zO0) 28 3 17 29) 29 zO0) 29 3 30) 36 zO0) 36 37) 38 zO0) 38 39) 208 zO0) 208 209) 0 9 (0 : Int32)) 0 10 (0 : Int32)) 0 11 (-1 : Int32)
set_option maxRecDepth 100000 in
set_option maxHeartbeats 4000000 in
theorem c_X10_init (l : Launch) (D : zD) (A : Nat → Prop) (b : Nat) : z_MN l D A b (zal g00 0 (13, 0, zNo)) 1 yX10_init cX10_init 1 none 5 101 221 7250 [.ref (b + 0)] (zst u00 0 zO0) none gI_X10_init 222 uI_X10_init := by
  refine z_enterN (by decide) (Nat.le_of_ble_eq_true rfl) ?_
  intro p e s m below meth c ls C0 hr hml hlk hin0 hK2 hZ hA hW hS hl
  have hl : lv_has ls 1 [(0, .ref (b + 0))] := hl
  have hx := C0.1
  have hb := C0.2.1
  have kw := zal_e1 g00 0 (13, 0, zNo)
  unfold gI_X10_init uI_X10_init
  refine lv_aload_n hx hb dX10_init_0 rfl (lv_at hl 0 rfl) ?_
  refine z_oi C0 (hml.trans hl.1.symm) oi_X10_1 dX10_init_1 ⟨Nat.le_of_ble_eq_true rfl, Nat.le_of_ble_eq_true rfl⟩ ?_
  refine lv_aload_n hx hb dX10_init_4 rfl (lv_at hl 0 rfl) ?_
  refine z_newO C0 hW hS hA hZ nw_X10_7 ⟨Nat.le_of_ble_eq_true rfl, Nat.le_of_ble_eq_true rfl⟩ dX10_init_5 (fun H hW hS hZ => ?_)
  replace kw := (zal_n1 _ (10, 0, zNo) (show 0 ≠ 1 by decide)).trans kw
  have k2 := zal_e1 (zal g00 0 (13, 0, zNo)) 1 (10, 0, zNo)
  replace hZ : H.size = b + 2 := hZ
  refine lv_dup hx hb dX10_init_8 rfl ?_
  refine z_cI (As := []) C0 hK2 hml hl.1 hW hS hZ hA (c_X7_init l D A b _ _ 1  2 k2 (show 1 < 2 by decide)) yi_X10_9 ⟨Nat.le_of_ble_eq_true rfl, Nat.le_of_ble_eq_true rfl⟩ ⟨Nat.le_of_ble_eq_true rfl, Nat.le_of_ble_eq_true rfl⟩ rfl rfl (Nat.le_of_ble_eq_true rfl) dX10_init_9 (fun H locs hW hS hZ => ?_)
  replace kw := (gI_X7_init_1 _ 1 2 (show 0 < 2 by decide)).trans kw
  replace k2 := (gI_X7_init_1 _ 1 2 (show 1 < 2 by decide)).trans k2
  replace hZ : H.size = b + 3 := hZ
  refine z_putFr C0 hin0 hW hS hZ fl_X10_10 ⟨_, _, _, rfl, rfl⟩ kw rfl rfl rfl dX10_init_12 (fun H locs hW hS hZ => ?_)
  replace kw := (zgs_1 _ 0 0 1 _).trans kw
  have k2 := zgs_e (gI_X7_init (zal (zal g00 0 (13, 0, zNo)) 1 (10, 0, zNo)) 1 2) 0 0 1
  refine lv_aload_n hx hb dX10_init_15 rfl (lv_at hl 0 rfl) ?_
  refine z_newO C0 hW hS hA hZ nw_X10_16 ⟨Nat.le_of_ble_eq_true rfl, Nat.le_of_ble_eq_true rfl⟩ dX10_init_16 (fun H hW hS hZ => ?_)
  replace kw := (zal_n1 _ (11, 0, zNo) (show 0 ≠ 3 by decide)).trans kw
  replace k2 := (zal_n3 _ _ (11, 0, zNo) (show 0 ≠ 3 by decide)).trans k2
  have k3 := zal_e1 (zgs (gI_X7_init (zal (zal g00 0 (13, 0, zNo)) 1 (10, 0, zNo)) 1 2) 0 0 1) 3 (11, 0, zNo)
  replace hZ : H.size = b + 4 := hZ
  refine lv_dup hx hb dX10_init_19 rfl ?_
  refine lv_aload_n hx hb dX10_init_20 rfl (lv_at hl 0 rfl) ?_
  refine z_getr (o := 1) C0 hW fl_X10_10 kw rfl k2 dX10_init_21 ?_
  refine z_cI (As := [.ref (b + 1)]) C0 hK2 hml hl.1 hW hS hZ hA (c_X8_init l D A b _ _ 3 1 4 k3 (show 3 < 4 by decide)) yi_X10_18 ⟨Nat.le_of_ble_eq_true rfl, Nat.le_of_ble_eq_true rfl⟩ ⟨Nat.le_of_ble_eq_true rfl, Nat.le_of_ble_eq_true rfl⟩ rfl rfl (Nat.le_of_ble_eq_true rfl) dX10_init_24 (fun H locs hW hS hZ => ?_)
  replace kw := (gI_X8_init_1 _ 3 1 4 (show 0 < 4 by decide)).trans kw
  replace k2 := (gI_X8_init_3 _ 3 1 4 _ (show 0 < 4 by decide) (show 0 ≠ 3 by decide)).trans k2
  replace k3 := (gI_X8_init_1 _ 3 1 4 (show 3 < 4 by decide)).trans k3
  replace hZ : H.size = b + 6 := hZ
  refine z_putFr C0 hin0 hW hS hZ fl_X10_21 ⟨_, _, _, rfl, rfl⟩ kw rfl rfl rfl dX10_init_27 (fun H locs hW hS hZ => ?_)
  replace kw := (zgs_1 _ 0 1 3 _).trans kw
  replace k2 := (zgs_n (k := 1) _ 0 3 _ (by decide)).trans k2
  have k3 := zgs_e (gI_X8_init (zal (zgs (gI_X7_init (zal (zal g00 0 (13, 0, zNo)) 1 (10, 0, zNo)) 1 2) 0 0 1) 3 (11, 0, zNo)) 3 1 4) 0 1 3
  refine lv_aload_n hx hb dX10_init_30 rfl (lv_at hl 0 rfl) ?_
  refine z_newO C0 hW hS hA hZ nw_X10_25 ⟨Nat.le_of_ble_eq_true rfl, Nat.le_of_ble_eq_true rfl⟩ dX10_init_31 (fun H hW hS hZ => ?_)
  replace kw := (zal_n1 _ (12, 0, zNo) (show 0 ≠ 6 by decide)).trans kw
  replace k2 := (zal_n3 _ _ (12, 0, zNo) (show 0 ≠ 6 by decide)).trans k2
  replace k3 := (zal_n3 _ _ (12, 0, zNo) (show 0 ≠ 6 by decide)).trans k3
  have k4 := zal_e1 (zgs (gI_X8_init (zal (zgs (gI_X7_init (zal (zal g00 0 (13, 0, zNo)) 1 (10, 0, zNo)) 1 2) 0 0 1) 3 (11, 0, zNo)) 3 1 4) 0 1 3) 6 (12, 0, zNo)
  replace hZ : H.size = b + 7 := hZ
  refine lv_dup hx hb dX10_init_34 rfl ?_
  refine z_cI (As := []) C0 hK2 hml hl.1 hW hS hZ hA (c_X9_init l D A b _ _ 6  7 k4 (show 6 < 7 by decide)) yi_X10_27 ⟨Nat.le_of_ble_eq_true rfl, Nat.le_of_ble_eq_true rfl⟩ ⟨Nat.le_of_ble_eq_true rfl, Nat.le_of_ble_eq_true rfl⟩ rfl rfl (Nat.le_of_ble_eq_true rfl) dX10_init_35 (fun H locs hW hS hZ => ?_)
  replace kw := (gI_X9_init_1 _ 6 7 (show 0 < 7 by decide)).trans kw
  replace k2 := (gI_X9_init_3 _ 6 7 _ (show 0 < 7 by decide) (show 0 ≠ 6 by decide)).trans k2
  replace k3 := (gI_X9_init_3 _ 6 7 _ (show 0 < 7 by decide) (show 0 ≠ 6 by decide)).trans k3
  replace k4 := (gI_X9_init_1 _ 6 7 (show 6 < 7 by decide)).trans k4
  replace hZ : H.size = b + 17 := hZ
  refine z_putFr C0 hin0 hW hS hZ fl_X10_28 ⟨_, _, _, rfl, rfl⟩ kw rfl rfl rfl dX10_init_38 (fun H locs hW hS hZ => ?_)
  replace kw := (zgs_1 _ 0 2 6 _).trans kw
  replace k2 := (zgs_n (k := 2) _ 0 6 _ (by decide)).trans k2
  replace k3 := (zgs_n (k := 2) _ 0 6 _ (by decide)).trans k3
  refine lv_aload_n hx hb dX10_init_41 rfl (lv_at hl 0 rfl) ?_
  refine z_newO C0 hW hS hA hZ nw_X10_25 ⟨Nat.le_of_ble_eq_true rfl, Nat.le_of_ble_eq_true rfl⟩ dX10_init_42 (fun H hW hS hZ => ?_)
  replace kw := (zal_n1 _ (12, 0, zNo) (show 0 ≠ 17 by decide)).trans kw
  replace k2 := (zal_n3 _ _ (12, 0, zNo) (show 0 ≠ 17 by decide)).trans k2
  replace k3 := (zal_n3 _ _ (12, 0, zNo) (show 0 ≠ 17 by decide)).trans k3
  have k4 := zal_e1 (zgs (gI_X9_init (zal (zgs (gI_X8_init (zal (zgs (gI_X7_init (zal (zal g00 0 (13, 0, zNo)) 1 (10, 0, zNo)) 1 2) 0 0 1) 3 (11, 0, zNo)) 3 1 4) 0 1 3) 6 (12, 0, zNo)) 6 7) 0 2 6) 17 (12, 0, zNo)
  replace hZ : H.size = b + 18 := hZ
  refine lv_dup hx hb dX10_init_45 rfl ?_
  refine z_cI (As := []) C0 hK2 hml hl.1 hW hS hZ hA (c_X9_init l D A b _ _ 17  18 k4 (show 17 < 18 by decide)) yi_X10_27 ⟨Nat.le_of_ble_eq_true rfl, Nat.le_of_ble_eq_true rfl⟩ ⟨Nat.le_of_ble_eq_true rfl, Nat.le_of_ble_eq_true rfl⟩ rfl rfl (Nat.le_of_ble_eq_true rfl) dX10_init_46 (fun H locs hW hS hZ => ?_)
  replace kw := (gI_X9_init_1 _ 17 18 (show 0 < 18 by decide)).trans kw
  replace k2 := (gI_X9_init_3 _ 17 18 _ (show 0 < 18 by decide) (show 0 ≠ 17 by decide)).trans k2
  replace k3 := (gI_X9_init_3 _ 17 18 _ (show 0 < 18 by decide) (show 0 ≠ 17 by decide)).trans k3
  replace k4 := (gI_X9_init_1 _ 17 18 (show 17 < 18 by decide)).trans k4
  replace hZ : H.size = b + 28 := hZ
  refine z_putFr C0 hin0 hW hS hZ fl_X10_32 ⟨_, _, _, rfl, rfl⟩ kw rfl rfl rfl dX10_init_49 (fun H locs hW hS hZ => ?_)
  replace kw := (zgs_1 _ 0 3 17 _).trans kw
  replace k2 := (zgs_n (k := 3) _ 0 17 _ (by decide)).trans k2
  replace k3 := (zgs_n (k := 3) _ 0 17 _ (by decide)).trans k3
  have k4 := zgs_e (gI_X9_init (zal (zgs (gI_X9_init (zal (zgs (gI_X8_init (zal (zgs (gI_X7_init (zal (zal g00 0 (13, 0, zNo)) 1 (10, 0, zNo)) 1 2) 0 0 1) 3 (11, 0, zNo)) 3 1 4) 0 1 3) 6 (12, 0, zNo)) 6 7) 0 2 6) 17 (12, 0, zNo)) 17 18) 0 3 17
  refine lv_aload_n hx hb dX10_init_52 rfl (lv_at hl 0 rfl) ?_
  refine z_newO C0 hW hS hA hZ nw_X10_35 ⟨Nat.le_of_ble_eq_true rfl, Nat.le_of_ble_eq_true rfl⟩ dX10_init_53 (fun H hW hS hZ => ?_)
  replace kw := (zal_n1 _ (5, 0, zNo) (show 0 ≠ 28 by decide)).trans kw
  replace k2 := (zal_n3 _ _ (5, 0, zNo) (show 0 ≠ 28 by decide)).trans k2
  replace k3 := (zal_n3 _ _ (5, 0, zNo) (show 0 ≠ 28 by decide)).trans k3
  replace k4 := (zal_n3 _ _ (5, 0, zNo) (show 0 ≠ 28 by decide)).trans k4
  have k5 := zal_e1 (zgs (gI_X9_init (zal (zgs (gI_X9_init (zal (zgs (gI_X8_init (zal (zgs (gI_X7_init (zal (zal g00 0 (13, 0, zNo)) 1 (10, 0, zNo)) 1 2) 0 0 1) 3 (11, 0, zNo)) 3 1 4) 0 1 3) 6 (12, 0, zNo)) 6 7) 0 2 6) 17 (12, 0, zNo)) 17 18) 0 3 17) 28 (5, 0, zNo)
  replace hZ : H.size = b + 29 := hZ
  refine lv_dup hx hb dX10_init_56 rfl ?_
  refine lv_aload_n hx hb dX10_init_57 rfl (lv_at hl 0 rfl) ?_
  refine z_getr (o := 3) C0 hW fl_X10_21 kw rfl k3 dX10_init_58 ?_
  refine lv_aload_n hx hb dX10_init_61 rfl (lv_at hl 0 rfl) ?_
  refine z_getr (o := 17) C0 hW fl_X10_32 kw rfl k4 dX10_init_62 ?_
  refine z_cI (As := [.ref (b + 3), .ref (b + 17)]) C0 hK2 hml hl.1 hW hS hZ hA (c_X1_init l D A b _ _ 28 3 17 29 k5 (show 28 < 29 by decide)) yi_X10_37 ⟨Nat.le_of_ble_eq_true rfl, Nat.le_of_ble_eq_true rfl⟩ ⟨Nat.le_of_ble_eq_true rfl, Nat.le_of_ble_eq_true rfl⟩ rfl rfl (Nat.le_of_ble_eq_true rfl) dX10_init_65 (fun H locs hW hS hZ => ?_)
  replace kw := (gI_X1_init_1 _ 28 3 17 29 (show 0 < 29 by decide)).trans kw
  replace k2 := (gI_X1_init_3 _ 28 3 17 29 _ (show 0 < 29 by decide) (show 0 ≠ 28 by decide)).trans k2
  replace k3 := (gI_X1_init_3 _ 28 3 17 29 _ (show 0 < 29 by decide) (show 0 ≠ 28 by decide)).trans k3
  replace k4 := (gI_X1_init_3 _ 28 3 17 29 _ (show 0 < 29 by decide) (show 0 ≠ 28 by decide)).trans k4
  replace k5 := (gI_X1_init_1 _ 28 3 17 29 (show 28 < 29 by decide)).trans k5
  replace hZ : H.size = b + 29 := hZ
  refine z_putFr C0 hin0 hW hS hZ fl_X10_40 ⟨_, _, _, rfl, rfl⟩ kw rfl rfl rfl dX10_init_68 (fun H locs hW hS hZ => ?_)
  replace kw := (zgs_1 _ 0 4 28 _).trans kw
  replace k2 := (zgs_n (k := 4) _ 0 28 _ (by decide)).trans k2
  replace k3 := (zgs_n (k := 4) _ 0 28 _ (by decide)).trans k3
  replace k4 := (zgs_n (k := 4) _ 0 28 _ (by decide)).trans k4
  refine lv_aload_n hx hb dX10_init_71 rfl (lv_at hl 0 rfl) ?_
  refine z_newO C0 hW hS hA hZ nw_X10_44 ⟨Nat.le_of_ble_eq_true rfl, Nat.le_of_ble_eq_true rfl⟩ dX10_init_72 (fun H hW hS hZ => ?_)
  replace kw := (zal_n1 _ (9, 0, zNo) (show 0 ≠ 29 by decide)).trans kw
  replace k2 := (zal_n3 _ _ (9, 0, zNo) (show 0 ≠ 29 by decide)).trans k2
  replace k3 := (zal_n3 _ _ (9, 0, zNo) (show 0 ≠ 29 by decide)).trans k3
  replace k4 := (zal_n3 _ _ (9, 0, zNo) (show 0 ≠ 29 by decide)).trans k4
  have k5 := zal_e1 (zgs (gI_X1_init (zal (zgs (gI_X9_init (zal (zgs (gI_X9_init (zal (zgs (gI_X8_init (zal (zgs (gI_X7_init (zal (zal g00 0 (13, 0, zNo)) 1 (10, 0, zNo)) 1 2) 0 0 1) 3 (11, 0, zNo)) 3 1 4) 0 1 3) 6 (12, 0, zNo)) 6 7) 0 2 6) 17 (12, 0, zNo)) 17 18) 0 3 17) 28 (5, 0, zNo)) 28 3 17 29) 0 4 28) 29 (9, 0, zNo)
  replace hZ : H.size = b + 30 := hZ
  refine lv_dup hx hb dX10_init_75 rfl ?_
  refine lv_aload_n hx hb dX10_init_76 rfl (lv_at hl 0 rfl) ?_
  refine z_getr (o := 3) C0 hW fl_X10_21 kw rfl k3 dX10_init_77 ?_
  refine z_cI (As := [.ref (b + 3)]) C0 hK2 hml hl.1 hW hS hZ hA (c_X5_init l D A b _ _ 29 3 30 k5 (show 29 < 30 by decide)) yi_X10_46 ⟨Nat.le_of_ble_eq_true rfl, Nat.le_of_ble_eq_true rfl⟩ ⟨Nat.le_of_ble_eq_true rfl, Nat.le_of_ble_eq_true rfl⟩ rfl rfl (Nat.le_of_ble_eq_true rfl) dX10_init_80 (fun H locs hW hS hZ => ?_)
  replace kw := (gI_X5_init_1 _ 29 3 30 (show 0 < 30 by decide)).trans kw
  replace k2 := (gI_X5_init_3 _ 29 3 30 _ (show 0 < 30 by decide) (show 0 ≠ 29 by decide)).trans k2
  replace k3 := (gI_X5_init_3 _ 29 3 30 _ (show 0 < 30 by decide) (show 0 ≠ 29 by decide)).trans k3
  replace k4 := (gI_X5_init_3 _ 29 3 30 _ (show 0 < 30 by decide) (show 0 ≠ 29 by decide)).trans k4
  replace k5 := (gI_X5_init_1 _ 29 3 30 (show 29 < 30 by decide)).trans k5
  replace hZ : H.size = b + 36 := hZ
  refine z_putFr C0 hin0 hW hS hZ fl_X10_49 ⟨_, _, _, rfl, rfl⟩ kw rfl rfl rfl dX10_init_83 (fun H locs hW hS hZ => ?_)
  replace kw := (zgs_1 _ 0 5 29 _).trans kw
  replace k2 := (zgs_n (k := 5) _ 0 29 _ (by decide)).trans k2
  replace k3 := (zgs_n (k := 5) _ 0 29 _ (by decide)).trans k3
  replace k4 := (zgs_n (k := 5) _ 0 29 _ (by decide)).trans k4
  refine lv_aload_n hx hb dX10_init_86 rfl (lv_at hl 0 rfl) ?_
  refine z_newO C0 hW hS hA hZ nw_X10_53 ⟨Nat.le_of_ble_eq_true rfl, Nat.le_of_ble_eq_true rfl⟩ dX10_init_87 (fun H hW hS hZ => ?_)
  replace kw := (zal_n1 _ (6, 0, zNo) (show 0 ≠ 36 by decide)).trans kw
  replace k2 := (zal_n3 _ _ (6, 0, zNo) (show 0 ≠ 36 by decide)).trans k2
  replace k3 := (zal_n3 _ _ (6, 0, zNo) (show 0 ≠ 36 by decide)).trans k3
  replace k4 := (zal_n3 _ _ (6, 0, zNo) (show 0 ≠ 36 by decide)).trans k4
  have k5 := zal_e1 (zgs (gI_X5_init (zal (zgs (gI_X1_init (zal (zgs (gI_X9_init (zal (zgs (gI_X9_init (zal (zgs (gI_X8_init (zal (zgs (gI_X7_init (zal (zal g00 0 (13, 0, zNo)) 1 (10, 0, zNo)) 1 2) 0 0 1) 3 (11, 0, zNo)) 3 1 4) 0 1 3) 6 (12, 0, zNo)) 6 7) 0 2 6) 17 (12, 0, zNo)) 17 18) 0 3 17) 28 (5, 0, zNo)) 28 3 17 29) 0 4 28) 29 (9, 0, zNo)) 29 3 30) 0 5 29) 36 (6, 0, zNo)
  replace hZ : H.size = b + 37 := hZ
  refine lv_dup hx hb dX10_init_90 rfl ?_
  refine z_cI (As := []) C0 hK2 hml hl.1 hW hS hZ hA (c_X2_init l D A b _ _ 36  37 k5 (show 36 < 37 by decide)) yi_X10_55 ⟨Nat.le_of_ble_eq_true rfl, Nat.le_of_ble_eq_true rfl⟩ ⟨Nat.le_of_ble_eq_true rfl, Nat.le_of_ble_eq_true rfl⟩ rfl rfl (Nat.le_of_ble_eq_true rfl) dX10_init_91 (fun H locs hW hS hZ => ?_)
  replace kw := (gI_X2_init_1 _ 36 37 (show 0 < 37 by decide)).trans kw
  replace k2 := (gI_X2_init_3 _ 36 37 _ (show 0 < 37 by decide) (show 0 ≠ 36 by decide)).trans k2
  replace k3 := (gI_X2_init_3 _ 36 37 _ (show 0 < 37 by decide) (show 0 ≠ 36 by decide)).trans k3
  replace k4 := (gI_X2_init_3 _ 36 37 _ (show 0 < 37 by decide) (show 0 ≠ 36 by decide)).trans k4
  replace k5 := (gI_X2_init_1 _ 36 37 (show 36 < 37 by decide)).trans k5
  replace hZ : H.size = b + 38 := hZ
  refine z_putFr C0 hin0 hW hS hZ fl_X10_56 ⟨_, _, _, rfl, rfl⟩ kw rfl rfl rfl dX10_init_94 (fun H locs hW hS hZ => ?_)
  replace kw := (zgs_1 _ 0 6 36 _).trans kw
  replace k2 := (zgs_n (k := 6) _ 0 36 _ (by decide)).trans k2
  replace k3 := (zgs_n (k := 6) _ 0 36 _ (by decide)).trans k3
  replace k4 := (zgs_n (k := 6) _ 0 36 _ (by decide)).trans k4
  refine lv_aload_n hx hb dX10_init_97 rfl (lv_at hl 0 rfl) ?_
  refine z_newO C0 hW hS hA hZ nw_X10_60 ⟨Nat.le_of_ble_eq_true rfl, Nat.le_of_ble_eq_true rfl⟩ dX10_init_98 (fun H hW hS hZ => ?_)
  replace kw := (zal_n1 _ (4, 0, zNo) (show 0 ≠ 38 by decide)).trans kw
  replace k2 := (zal_n3 _ _ (4, 0, zNo) (show 0 ≠ 38 by decide)).trans k2
  replace k3 := (zal_n3 _ _ (4, 0, zNo) (show 0 ≠ 38 by decide)).trans k3
  replace k4 := (zal_n3 _ _ (4, 0, zNo) (show 0 ≠ 38 by decide)).trans k4
  have k5 := zal_e1 (zgs (gI_X2_init (zal (zgs (gI_X5_init (zal (zgs (gI_X1_init (zal (zgs (gI_X9_init (zal (zgs (gI_X9_init (zal (zgs (gI_X8_init (zal (zgs (gI_X7_init (zal (zal g00 0 (13, 0, zNo)) 1 (10, 0, zNo)) 1 2) 0 0 1) 3 (11, 0, zNo)) 3 1 4) 0 1 3) 6 (12, 0, zNo)) 6 7) 0 2 6) 17 (12, 0, zNo)) 17 18) 0 3 17) 28 (5, 0, zNo)) 28 3 17 29) 0 4 28) 29 (9, 0, zNo)) 29 3 30) 0 5 29) 36 (6, 0, zNo)) 36 37) 0 6 36) 38 (4, 0, zNo)
  replace hZ : H.size = b + 39 := hZ
  refine lv_dup hx hb dX10_init_101 rfl ?_
  refine z_cI (As := []) C0 hK2 hml hl.1 hW hS hZ hA (c_X0_init l D A b _ _ 38  39 k5 (show 38 < 39 by decide)) yi_X10_62 ⟨Nat.le_of_ble_eq_true rfl, Nat.le_of_ble_eq_true rfl⟩ ⟨Nat.le_of_ble_eq_true rfl, Nat.le_of_ble_eq_true rfl⟩ rfl rfl (Nat.le_of_ble_eq_true rfl) dX10_init_102 (fun H locs hW hS hZ => ?_)
  replace kw := (gI_X0_init_1 _ 38 39 (show 0 < 39 by decide)).trans kw
  replace k2 := (gI_X0_init_3 _ 38 39 _ (show 0 < 39 by decide) (show 0 ≠ 38 by decide)).trans k2
  replace k3 := (gI_X0_init_3 _ 38 39 _ (show 0 < 39 by decide) (show 0 ≠ 38 by decide)).trans k3
  replace k4 := (gI_X0_init_3 _ 38 39 _ (show 0 < 39 by decide) (show 0 ≠ 38 by decide)).trans k4
  replace k5 := (gI_X0_init_1 _ 38 39 (show 38 < 39 by decide)).trans k5
  replace hZ : H.size = b + 208 := hZ
  refine z_putFr C0 hin0 hW hS hZ fl_X10_63 ⟨_, _, _, rfl, rfl⟩ kw rfl rfl rfl dX10_init_105 (fun H locs hW hS hZ => ?_)
  replace kw := (zgs_1 _ 0 7 38 _).trans kw
  replace k2 := (zgs_n (k := 7) _ 0 38 _ (by decide)).trans k2
  replace k3 := (zgs_n (k := 7) _ 0 38 _ (by decide)).trans k3
  replace k4 := (zgs_n (k := 7) _ 0 38 _ (by decide)).trans k4
  refine lv_aload_n hx hb dX10_init_108 rfl (lv_at hl 0 rfl) ?_
  refine z_newO C0 hW hS hA hZ nw_X10_67 ⟨Nat.le_of_ble_eq_true rfl, Nat.le_of_ble_eq_true rfl⟩ dX10_init_109 (fun H hW hS hZ => ?_)
  replace kw := (zal_n1 _ (7, 0, zNo) (show 0 ≠ 208 by decide)).trans kw
  replace k2 := (zal_n3 _ _ (7, 0, zNo) (show 0 ≠ 208 by decide)).trans k2
  replace k3 := (zal_n3 _ _ (7, 0, zNo) (show 0 ≠ 208 by decide)).trans k3
  replace k4 := (zal_n3 _ _ (7, 0, zNo) (show 0 ≠ 208 by decide)).trans k4
  have k5 := zal_e1 (zgs (gI_X0_init (zal (zgs (gI_X2_init (zal (zgs (gI_X5_init (zal (zgs (gI_X1_init (zal (zgs (gI_X9_init (zal (zgs (gI_X9_init (zal (zgs (gI_X8_init (zal (zgs (gI_X7_init (zal (zal g00 0 (13, 0, zNo)) 1 (10, 0, zNo)) 1 2) 0 0 1) 3 (11, 0, zNo)) 3 1 4) 0 1 3) 6 (12, 0, zNo)) 6 7) 0 2 6) 17 (12, 0, zNo)) 17 18) 0 3 17) 28 (5, 0, zNo)) 28 3 17 29) 0 4 28) 29 (9, 0, zNo)) 29 3 30) 0 5 29) 36 (6, 0, zNo)) 36 37) 0 6 36) 38 (4, 0, zNo)) 38 39) 0 7 38) 208 (7, 0, zNo)
  replace hZ : H.size = b + 209 := hZ
  refine lv_dup hx hb dX10_init_112 rfl ?_
  refine z_cI (As := []) C0 hK2 hml hl.1 hW hS hZ hA (c_X3_init l D A b _ _ 208  209 k5 (show 208 < 209 by decide)) yi_X10_69 ⟨Nat.le_of_ble_eq_true rfl, Nat.le_of_ble_eq_true rfl⟩ ⟨Nat.le_of_ble_eq_true rfl, Nat.le_of_ble_eq_true rfl⟩ rfl rfl (Nat.le_of_ble_eq_true rfl) dX10_init_113 (fun H locs hW hS hZ => ?_)
  replace kw := (gI_X3_init_1 _ 208 209 (show 0 < 209 by decide)).trans kw
  replace k2 := (gI_X3_init_3 _ 208 209 _ (show 0 < 209 by decide) (show 0 ≠ 208 by decide)).trans k2
  replace k3 := (gI_X3_init_3 _ 208 209 _ (show 0 < 209 by decide) (show 0 ≠ 208 by decide)).trans k3
  replace k4 := (gI_X3_init_3 _ 208 209 _ (show 0 < 209 by decide) (show 0 ≠ 208 by decide)).trans k4
  replace k5 := (gI_X3_init_1 _ 208 209 (show 208 < 209 by decide)).trans k5
  replace hZ : H.size = b + 222 := hZ
  refine z_putFr C0 hin0 hW hS hZ fl_X10_70 ⟨_, _, _, rfl, rfl⟩ kw rfl rfl rfl dX10_init_116 (fun H locs hW hS hZ => ?_)
  replace kw := (zgs_1 _ 0 8 208 _).trans kw
  replace k2 := (zgs_n (k := 8) _ 0 208 _ (by decide)).trans k2
  replace k3 := (zgs_n (k := 8) _ 0 208 _ (by decide)).trans k3
  replace k4 := (zgs_n (k := 8) _ 0 208 _ (by decide)).trans k4
  refine lv_aload_n hx hb dX10_init_119 rfl (lv_at hl 0 rfl) ?_
  refine lv_iconst (v := (0 : Int32)) hx hb dX10_init_120 (by decide) ?_
  refine z_putiN C0 hW hS hZ fl_X10_74 kw rfl rfl rfl dX10_init_121 (fun H locs hW hS hZ => ?_)
  refine lv_aload_n hx hb dX10_init_124 rfl (lv_at hl 0 rfl) ?_
  refine lv_iconst (v := (0 : Int32)) hx hb dX10_init_125 (by decide) ?_
  refine z_putiN C0 hW hS hZ fl_X10_78 kw rfl rfl rfl dX10_init_126 (fun H locs hW hS hZ => ?_)
  refine lv_aload_n hx hb dX10_init_129 rfl (lv_at hl 0 rfl) ?_
  refine lv_iconst (v := (-1 : Int32)) hx hb dX10_init_130 (by decide) ?_
  refine z_putiN C0 hW hS hZ fl_X10_82 kw rfl rfl rfl dX10_init_131 (fun H locs hW hS hZ => ?_)
  exact z_vretN C0 hr hlk hW hS hZ dX10_init_134
def gI_X11_init  : zG := zgs (zal (zgs (zal (zgs (zal (zgs (zal (zgs (zal (zgs (zal (zgs (zal (zgs (zal (zgs (zal (zal g00 0 (14, 0, zNo)) 1 (1, 705, zNo)) 0 1 1) 2 (1, 705, zNo)) 0 2 2) 3 (1, 305, zNo)) 0 4 3) 4 (1, 3660, zNo)) 0 5 4) 5 (1, 400, zNo)) 0 7 5) 6 (1, 7, zNo)) 0 14 6) 7 (1, 8, zNo)) 0 20 7) 8 (1, 8, zNo)) 0 21 8) 9 (2, 80, zNo)) 0 22 9
def uI_X11_init  : zU := z_up (z_up (z_up (z_up (z_up (z_up (z_up (z_up (z_up (z_up (z_up (z_up (zst (zst (zst (zst (z_up (zst (zst (zst (zst (zst (zst u00 0 zO0) 1 zO0) 2 zO0) 3 zO0) 4 zO0) 5 zO0) 0 12 (-1 : Int32)) 6 zO0) 7 zO0) 8 zO0) 9 zO0) 1 1 (-1 : Int32)) 1 5 (5 : Int32)) 1 7 (4 : Int32)) 1 12 (1 : Int32)) 1 17 (5 : Int32)) 1 18 (5 : Int32)) 1 19 (5 : Int32)) 1 20 (5 : Int32)) 1 21 (5 : Int32)) 1 22 (5 : Int32)) 1 23 (5 : Int32)) 1 24 (5 : Int32)
set_option maxRecDepth 100000 in
set_option maxHeartbeats 4000000 in
theorem c_X11_init (l : Launch) (D : zD) (A : Nat → Prop) (b : Nat) : z_MN l D A b (zal g00 0 (14, 0, zNo)) 1 yX11_init cX11_init 2 none 1 20 9 5878 [.ref (b + 0)] (zst u00 0 zO0) none gI_X11_init 10 uI_X11_init := by
  refine z_enterN (by decide) (Nat.le_of_ble_eq_true rfl) ?_
  intro p e s m below meth c ls C0 hr hml hlk hin0 hK2 hZ hA hW hS hl
  have hl : lv_has ls 2 [(0, .ref (b + 0))] := hl
  have hx := C0.1
  have hb := C0.2.1
  have kw := zal_e1 g00 0 (14, 0, zNo)
  unfold gI_X11_init uI_X11_init
  refine lv_aload_n hx hb dX11_init_0 rfl (lv_at hl 0 rfl) ?_
  refine z_oi C0 (hml.trans hl.1.symm) oi_X11_1 dX11_init_1 ⟨Nat.le_of_ble_eq_true rfl, Nat.le_of_ble_eq_true rfl⟩ ?_
  refine lv_aload_n hx hb dX11_init_4 rfl (lv_at hl 0 rfl) ?_
  refine lv_sipush (v := (705 : Int32)) hx hb dX11_init_5 (by decide) ?_
  refine z_newI (N := 705) C0 hW hS hA hZ w_ai ⟨by decide, by decide, by decide⟩ ⟨Nat.le_of_ble_eq_true rfl, Nat.le_of_ble_eq_true rfl⟩ dX11_init_8 (fun H hW hS hZ => ?_)
  replace kw := (zal_n1 _ (1, 705, zNo) (show 0 ≠ 1 by decide)).trans kw
  have k2 := zal_e1 (zal g00 0 (14, 0, zNo)) 1 (1, 705, zNo)
  have k3 := zal_e2 (zal g00 0 (14, 0, zNo)) 1 (1, 705, zNo)
  replace hZ : H.size = b + 2 := hZ
  refine z_putFr C0 hin0 hW hS hZ fl_X11_7 ⟨_, _, _, rfl, rfl⟩ kw rfl rfl rfl dX11_init_10 (fun H locs hW hS hZ => ?_)
  replace kw := (zgs_1 _ 0 1 1 _).trans kw
  replace k2 := (zgs_1 _ 0 1 1 _).trans k2
  replace k3 := (zgs_2 _ 0 1 1 _).trans k3
  have k4 := zgs_e (zal (zal g00 0 (14, 0, zNo)) 1 (1, 705, zNo)) 0 1 1
  refine lv_aload_n hx hb dX11_init_13 rfl (lv_at hl 0 rfl) ?_
  refine lv_sipush (v := (705 : Int32)) hx hb dX11_init_14 (by decide) ?_
  refine z_newI (N := 705) C0 hW hS hA hZ w_ai ⟨by decide, by decide, by decide⟩ ⟨Nat.le_of_ble_eq_true rfl, Nat.le_of_ble_eq_true rfl⟩ dX11_init_17 (fun H hW hS hZ => ?_)
  replace kw := (zal_n1 _ (1, 705, zNo) (show 0 ≠ 2 by decide)).trans kw
  replace k2 := (zal_n1 _ (1, 705, zNo) (show 1 ≠ 2 by decide)).trans k2
  replace k3 := (zal_n2 _ (1, 705, zNo) (show 1 ≠ 2 by decide)).trans k3
  replace k4 := (zal_n3 _ _ (1, 705, zNo) (show 0 ≠ 2 by decide)).trans k4
  replace hZ : H.size = b + 3 := hZ
  refine z_putFr C0 hin0 hW hS hZ fl_X11_13 ⟨_, _, _, rfl, rfl⟩ kw rfl rfl rfl dX11_init_19 (fun H locs hW hS hZ => ?_)
  replace kw := (zgs_1 _ 0 2 2 _).trans kw
  replace k2 := (zgs_1 _ 0 2 2 _).trans k2
  replace k3 := (zgs_2 _ 0 2 2 _).trans k3
  replace k4 := (zgs_n (k := 2) _ 0 2 _ (by decide)).trans k4
  refine lv_aload_n hx hb dX11_init_22 rfl (lv_at hl 0 rfl) ?_
  refine lv_sipush (v := (305 : Int32)) hx hb dX11_init_23 (by decide) ?_
  refine z_newI (N := 305) C0 hW hS hA hZ w_ai ⟨by decide, by decide, by decide⟩ ⟨Nat.le_of_ble_eq_true rfl, Nat.le_of_ble_eq_true rfl⟩ dX11_init_26 (fun H hW hS hZ => ?_)
  replace kw := (zal_n1 _ (1, 305, zNo) (show 0 ≠ 3 by decide)).trans kw
  replace k2 := (zal_n1 _ (1, 305, zNo) (show 1 ≠ 3 by decide)).trans k2
  replace k3 := (zal_n2 _ (1, 305, zNo) (show 1 ≠ 3 by decide)).trans k3
  replace k4 := (zal_n3 _ _ (1, 305, zNo) (show 0 ≠ 3 by decide)).trans k4
  replace hZ : H.size = b + 4 := hZ
  refine z_putFr C0 hin0 hW hS hZ fl_X11_16 ⟨_, _, _, rfl, rfl⟩ kw rfl rfl rfl dX11_init_28 (fun H locs hW hS hZ => ?_)
  replace kw := (zgs_1 _ 0 4 3 _).trans kw
  replace k2 := (zgs_1 _ 0 4 3 _).trans k2
  replace k3 := (zgs_2 _ 0 4 3 _).trans k3
  replace k4 := (zgs_n (k := 4) _ 0 3 _ (by decide)).trans k4
  refine lv_aload_n hx hb dX11_init_31 rfl (lv_at hl 0 rfl) ?_
  refine lv_sipush (v := (3660 : Int32)) hx hb dX11_init_32 (by decide) ?_
  refine z_newI (N := 3660) C0 hW hS hA hZ w_ai ⟨by decide, by decide, by decide⟩ ⟨Nat.le_of_ble_eq_true rfl, Nat.le_of_ble_eq_true rfl⟩ dX11_init_35 (fun H hW hS hZ => ?_)
  replace kw := (zal_n1 _ (1, 3660, zNo) (show 0 ≠ 4 by decide)).trans kw
  replace k2 := (zal_n1 _ (1, 3660, zNo) (show 1 ≠ 4 by decide)).trans k2
  replace k3 := (zal_n2 _ (1, 3660, zNo) (show 1 ≠ 4 by decide)).trans k3
  replace k4 := (zal_n3 _ _ (1, 3660, zNo) (show 0 ≠ 4 by decide)).trans k4
  replace hZ : H.size = b + 5 := hZ
  refine z_putFr C0 hin0 hW hS hZ fl_X11_19 ⟨_, _, _, rfl, rfl⟩ kw rfl rfl rfl dX11_init_37 (fun H locs hW hS hZ => ?_)
  replace kw := (zgs_1 _ 0 5 4 _).trans kw
  replace k2 := (zgs_1 _ 0 5 4 _).trans k2
  replace k3 := (zgs_2 _ 0 5 4 _).trans k3
  replace k4 := (zgs_n (k := 5) _ 0 4 _ (by decide)).trans k4
  refine lv_aload_n hx hb dX11_init_40 rfl (lv_at hl 0 rfl) ?_
  refine lv_sipush (v := (400 : Int32)) hx hb dX11_init_41 (by decide) ?_
  refine z_newI (N := 400) C0 hW hS hA hZ w_ai ⟨by decide, by decide, by decide⟩ ⟨Nat.le_of_ble_eq_true rfl, Nat.le_of_ble_eq_true rfl⟩ dX11_init_44 (fun H hW hS hZ => ?_)
  replace kw := (zal_n1 _ (1, 400, zNo) (show 0 ≠ 5 by decide)).trans kw
  replace k2 := (zal_n1 _ (1, 400, zNo) (show 1 ≠ 5 by decide)).trans k2
  replace k3 := (zal_n2 _ (1, 400, zNo) (show 1 ≠ 5 by decide)).trans k3
  replace k4 := (zal_n3 _ _ (1, 400, zNo) (show 0 ≠ 5 by decide)).trans k4
  replace hZ : H.size = b + 6 := hZ
  refine z_putFr C0 hin0 hW hS hZ fl_X11_22 ⟨_, _, _, rfl, rfl⟩ kw rfl rfl rfl dX11_init_46 (fun H locs hW hS hZ => ?_)
  replace kw := (zgs_1 _ 0 7 5 _).trans kw
  replace k2 := (zgs_1 _ 0 7 5 _).trans k2
  replace k3 := (zgs_2 _ 0 7 5 _).trans k3
  replace k4 := (zgs_n (k := 7) _ 0 5 _ (by decide)).trans k4
  refine lv_aload_n hx hb dX11_init_49 rfl (lv_at hl 0 rfl) ?_
  refine lv_iconst (v := (-1 : Int32)) hx hb dX11_init_50 (by decide) ?_
  refine z_putiN C0 hW hS hZ fl_X11_25 kw rfl rfl rfl dX11_init_51 (fun H locs hW hS hZ => ?_)
  refine lv_aload_n hx hb dX11_init_54 rfl (lv_at hl 0 rfl) ?_
  refine lv_bipush (v := (7 : Int32)) hx hb dX11_init_55 (by decide) ?_
  refine z_newI (N := 7) C0 hW hS hA hZ w_ai ⟨by decide, by decide, by decide⟩ ⟨Nat.le_of_ble_eq_true rfl, Nat.le_of_ble_eq_true rfl⟩ dX11_init_57 (fun H hW hS hZ => ?_)
  replace kw := (zal_n1 _ (1, 7, zNo) (show 0 ≠ 6 by decide)).trans kw
  replace k2 := (zal_n1 _ (1, 7, zNo) (show 1 ≠ 6 by decide)).trans k2
  replace k3 := (zal_n2 _ (1, 7, zNo) (show 1 ≠ 6 by decide)).trans k3
  replace k4 := (zal_n3 _ _ (1, 7, zNo) (show 0 ≠ 6 by decide)).trans k4
  replace hZ : H.size = b + 7 := hZ
  refine z_putFr C0 hin0 hW hS hZ fl_X11_29 ⟨_, _, _, rfl, rfl⟩ kw rfl rfl rfl dX11_init_59 (fun H locs hW hS hZ => ?_)
  replace kw := (zgs_1 _ 0 14 6 _).trans kw
  replace k2 := (zgs_1 _ 0 14 6 _).trans k2
  replace k3 := (zgs_2 _ 0 14 6 _).trans k3
  replace k4 := (zgs_n (k := 14) _ 0 6 _ (by decide)).trans k4
  refine lv_aload_n hx hb dX11_init_62 rfl (lv_at hl 0 rfl) ?_
  refine lv_bipush (v := (8 : Int32)) hx hb dX11_init_63 (by decide) ?_
  refine z_newI (N := 8) C0 hW hS hA hZ w_ai ⟨by decide, by decide, by decide⟩ ⟨Nat.le_of_ble_eq_true rfl, Nat.le_of_ble_eq_true rfl⟩ dX11_init_65 (fun H hW hS hZ => ?_)
  replace kw := (zal_n1 _ (1, 8, zNo) (show 0 ≠ 7 by decide)).trans kw
  replace k2 := (zal_n1 _ (1, 8, zNo) (show 1 ≠ 7 by decide)).trans k2
  replace k3 := (zal_n2 _ (1, 8, zNo) (show 1 ≠ 7 by decide)).trans k3
  replace k4 := (zal_n3 _ _ (1, 8, zNo) (show 0 ≠ 7 by decide)).trans k4
  replace hZ : H.size = b + 8 := hZ
  refine z_putFr C0 hin0 hW hS hZ fl_X11_32 ⟨_, _, _, rfl, rfl⟩ kw rfl rfl rfl dX11_init_67 (fun H locs hW hS hZ => ?_)
  replace kw := (zgs_1 _ 0 20 7 _).trans kw
  replace k2 := (zgs_1 _ 0 20 7 _).trans k2
  replace k3 := (zgs_2 _ 0 20 7 _).trans k3
  replace k4 := (zgs_n (k := 20) _ 0 7 _ (by decide)).trans k4
  refine lv_aload_n hx hb dX11_init_70 rfl (lv_at hl 0 rfl) ?_
  refine lv_bipush (v := (8 : Int32)) hx hb dX11_init_71 (by decide) ?_
  refine z_newI (N := 8) C0 hW hS hA hZ w_ai ⟨by decide, by decide, by decide⟩ ⟨Nat.le_of_ble_eq_true rfl, Nat.le_of_ble_eq_true rfl⟩ dX11_init_73 (fun H hW hS hZ => ?_)
  replace kw := (zal_n1 _ (1, 8, zNo) (show 0 ≠ 8 by decide)).trans kw
  replace k2 := (zal_n1 _ (1, 8, zNo) (show 1 ≠ 8 by decide)).trans k2
  replace k3 := (zal_n2 _ (1, 8, zNo) (show 1 ≠ 8 by decide)).trans k3
  replace k4 := (zal_n3 _ _ (1, 8, zNo) (show 0 ≠ 8 by decide)).trans k4
  replace hZ : H.size = b + 9 := hZ
  refine z_putFr C0 hin0 hW hS hZ fl_X11_35 ⟨_, _, _, rfl, rfl⟩ kw rfl rfl rfl dX11_init_75 (fun H locs hW hS hZ => ?_)
  replace kw := (zgs_1 _ 0 21 8 _).trans kw
  replace k2 := (zgs_1 _ 0 21 8 _).trans k2
  replace k3 := (zgs_2 _ 0 21 8 _).trans k3
  replace k4 := (zgs_n (k := 21) _ 0 8 _ (by decide)).trans k4
  refine lv_aload_n hx hb dX11_init_78 rfl (lv_at hl 0 rfl) ?_
  refine lv_bipush (v := (80 : Int32)) hx hb dX11_init_79 (by decide) ?_
  refine z_newZ (N := 80) C0 hW hS hA hZ w_az ⟨by decide, by decide, by decide⟩ ⟨Nat.le_of_ble_eq_true rfl, Nat.le_of_ble_eq_true rfl⟩ dX11_init_81 (fun H hW hS hZ => ?_)
  replace kw := (zal_n1 _ (2, 80, zNo) (show 0 ≠ 9 by decide)).trans kw
  replace k2 := (zal_n1 _ (2, 80, zNo) (show 1 ≠ 9 by decide)).trans k2
  replace k3 := (zal_n2 _ (2, 80, zNo) (show 1 ≠ 9 by decide)).trans k3
  replace k4 := (zal_n3 _ _ (2, 80, zNo) (show 0 ≠ 9 by decide)).trans k4
  replace hZ : H.size = b + 10 := hZ
  refine z_putFr C0 hin0 hW hS hZ fl_X11_38 ⟨_, _, _, rfl, rfl⟩ kw rfl rfl rfl dX11_init_83 (fun H locs hW hS hZ => ?_)
  replace kw := (zgs_1 _ 0 22 9 _).trans kw
  replace k2 := (zgs_1 _ 0 22 9 _).trans k2
  replace k3 := (zgs_2 _ 0 22 9 _).trans k3
  replace k4 := (zgs_n (k := 22) _ 0 9 _ (by decide)).trans k4
  refine lv_aload_n hx hb dX11_init_86 rfl (lv_at hl 0 rfl) ?_
  refine z_getr (o := 1) C0 hW fl_X11_7 kw rfl k4 dX11_init_87 ?_
  refine lv_iconst (v := (1 : Int32)) hx hb dX11_init_90 (by decide) ?_
  refine lv_iconst (v := (-1 : Int32)) hx hb dX11_init_91 (by decide) ?_
  refine z_iastN (N := 705) C0 hW hS hZ k2 k3 (by decide) (k := 1) (by decide) dX11_init_92 (fun H locs hW hS hZ => ?_)
  refine lv_aload_n hx hb dX11_init_93 rfl (lv_at hl 0 rfl) ?_
  refine z_getr (o := 1) C0 hW fl_X11_7 kw rfl k4 dX11_init_94 ?_
  refine lv_iconst (v := (5 : Int32)) hx hb dX11_init_97 (by decide) ?_
  refine lv_iconst (v := (5 : Int32)) hx hb dX11_init_98 (by decide) ?_
  refine z_iastN (N := 705) C0 hW hS hZ k2 k3 (by decide) (k := 5) (by decide) dX11_init_99 (fun H locs hW hS hZ => ?_)
  refine lv_aload_n hx hb dX11_init_100 rfl (lv_at hl 0 rfl) ?_
  refine z_getr (o := 1) C0 hW fl_X11_7 kw rfl k4 dX11_init_101 ?_
  refine lv_bipush (v := (7 : Int32)) hx hb dX11_init_104 (by decide) ?_
  refine lv_iconst (v := (4 : Int32)) hx hb dX11_init_106 (by decide) ?_
  refine z_iastN (N := 705) C0 hW hS hZ k2 k3 (by decide) (k := 7) (by decide) dX11_init_107 (fun H locs hW hS hZ => ?_)
  refine lv_aload_n hx hb dX11_init_108 rfl (lv_at hl 0 rfl) ?_
  refine z_getr (o := 1) C0 hW fl_X11_7 kw rfl k4 dX11_init_109 ?_
  refine lv_bipush (v := (12 : Int32)) hx hb dX11_init_112 (by decide) ?_
  refine lv_iconst (v := (1 : Int32)) hx hb dX11_init_114 (by decide) ?_
  refine z_iastN (N := 705) C0 hW hS hZ k2 k3 (by decide) (k := 12) (by decide) dX11_init_115 (fun H locs hW hS hZ => ?_)
  refine lv_iconst (v := (0 : Int32)) hx hb dX11_init_116 (by decide) ?_
  refine lv_istore_n (lv' := [(1, .int (0 : Int32)), (0, .ref (b + 0))]) hx hb dX11_init_117 rfl hl (by decide) rfl (fun ls hl => ?_)
  refine lv_iload_n hx hb dX11_init_118 rfl (lv_at hl 0 rfl) ?_
  refine lv_bipush (v := (8 : Int32)) hx hb dX11_init_119 (by decide) ?_
  refine lv_icmp_ge (tgt := 140) hx hb dX11_init_121 (by decide) (fun hc => absurd hc (by decide)) (fun hc => ?_)
  clear hc
  refine lv_aload_n hx hb dX11_init_124 rfl (lv_at hl 1 rfl) ?_
  refine z_getr (o := 1) C0 hW fl_X11_7 kw rfl k4 dX11_init_125 ?_
  refine lv_bipush (v := (17 : Int32)) hx hb dX11_init_128 (by decide) ?_
  refine lv_iload_n hx hb dX11_init_130 rfl (lv_at hl 0 rfl) ?_
  refine lv_iadd hx hb dX11_init_131 ?_
  refine z_as (y := (17 : Int32)) (by decide) ?_
  refine lv_iconst (v := (5 : Int32)) hx hb dX11_init_132 (by decide) ?_
  refine z_iastN (N := 705) C0 hW hS hZ k2 k3 (by decide) (k := 17) (by decide) dX11_init_133 (fun H locs hW hS hZ => ?_)
  refine lv_iinc (v := (1 : Int32)) (lv' := [(1, .int (1 : Int32)), (0, .ref (b + 0))]) hx hb dX11_init_134 hl (k := 0) rfl rfl (by decide) rfl (fun ls hl => ?_)
  refine lv_goto (tgt := 118) hx hb dX11_init_137 (by decide) ?_
  refine lv_iload_n hx hb dX11_init_118 rfl (lv_at hl 0 rfl) ?_
  refine lv_bipush (v := (8 : Int32)) hx hb dX11_init_119 (by decide) ?_
  refine lv_icmp_ge (tgt := 140) hx hb dX11_init_121 (by decide) (fun hc => absurd hc (by decide)) (fun hc => ?_)
  clear hc
  refine lv_aload_n hx hb dX11_init_124 rfl (lv_at hl 1 rfl) ?_
  refine z_getr (o := 1) C0 hW fl_X11_7 kw rfl k4 dX11_init_125 ?_
  refine lv_bipush (v := (17 : Int32)) hx hb dX11_init_128 (by decide) ?_
  refine lv_iload_n hx hb dX11_init_130 rfl (lv_at hl 0 rfl) ?_
  refine lv_iadd hx hb dX11_init_131 ?_
  refine z_as (y := (18 : Int32)) (by decide) ?_
  refine lv_iconst (v := (5 : Int32)) hx hb dX11_init_132 (by decide) ?_
  refine z_iastN (N := 705) C0 hW hS hZ k2 k3 (by decide) (k := 18) (by decide) dX11_init_133 (fun H locs hW hS hZ => ?_)
  refine lv_iinc (v := (2 : Int32)) (lv' := [(1, .int (2 : Int32)), (0, .ref (b + 0))]) hx hb dX11_init_134 hl (k := 0) rfl rfl (by decide) rfl (fun ls hl => ?_)
  refine lv_goto (tgt := 118) hx hb dX11_init_137 (by decide) ?_
  refine lv_iload_n hx hb dX11_init_118 rfl (lv_at hl 0 rfl) ?_
  refine lv_bipush (v := (8 : Int32)) hx hb dX11_init_119 (by decide) ?_
  refine lv_icmp_ge (tgt := 140) hx hb dX11_init_121 (by decide) (fun hc => absurd hc (by decide)) (fun hc => ?_)
  clear hc
  refine lv_aload_n hx hb dX11_init_124 rfl (lv_at hl 1 rfl) ?_
  refine z_getr (o := 1) C0 hW fl_X11_7 kw rfl k4 dX11_init_125 ?_
  refine lv_bipush (v := (17 : Int32)) hx hb dX11_init_128 (by decide) ?_
  refine lv_iload_n hx hb dX11_init_130 rfl (lv_at hl 0 rfl) ?_
  refine lv_iadd hx hb dX11_init_131 ?_
  refine z_as (y := (19 : Int32)) (by decide) ?_
  refine lv_iconst (v := (5 : Int32)) hx hb dX11_init_132 (by decide) ?_
  refine z_iastN (N := 705) C0 hW hS hZ k2 k3 (by decide) (k := 19) (by decide) dX11_init_133 (fun H locs hW hS hZ => ?_)
  refine lv_iinc (v := (3 : Int32)) (lv' := [(1, .int (3 : Int32)), (0, .ref (b + 0))]) hx hb dX11_init_134 hl (k := 0) rfl rfl (by decide) rfl (fun ls hl => ?_)
  refine lv_goto (tgt := 118) hx hb dX11_init_137 (by decide) ?_
  refine lv_iload_n hx hb dX11_init_118 rfl (lv_at hl 0 rfl) ?_
  refine lv_bipush (v := (8 : Int32)) hx hb dX11_init_119 (by decide) ?_
  refine lv_icmp_ge (tgt := 140) hx hb dX11_init_121 (by decide) (fun hc => absurd hc (by decide)) (fun hc => ?_)
  clear hc
  refine lv_aload_n hx hb dX11_init_124 rfl (lv_at hl 1 rfl) ?_
  refine z_getr (o := 1) C0 hW fl_X11_7 kw rfl k4 dX11_init_125 ?_
  refine lv_bipush (v := (17 : Int32)) hx hb dX11_init_128 (by decide) ?_
  refine lv_iload_n hx hb dX11_init_130 rfl (lv_at hl 0 rfl) ?_
  refine lv_iadd hx hb dX11_init_131 ?_
  refine z_as (y := (20 : Int32)) (by decide) ?_
  refine lv_iconst (v := (5 : Int32)) hx hb dX11_init_132 (by decide) ?_
  refine z_iastN (N := 705) C0 hW hS hZ k2 k3 (by decide) (k := 20) (by decide) dX11_init_133 (fun H locs hW hS hZ => ?_)
  refine lv_iinc (v := (4 : Int32)) (lv' := [(1, .int (4 : Int32)), (0, .ref (b + 0))]) hx hb dX11_init_134 hl (k := 0) rfl rfl (by decide) rfl (fun ls hl => ?_)
  refine lv_goto (tgt := 118) hx hb dX11_init_137 (by decide) ?_
  refine lv_iload_n hx hb dX11_init_118 rfl (lv_at hl 0 rfl) ?_
  refine lv_bipush (v := (8 : Int32)) hx hb dX11_init_119 (by decide) ?_
  refine lv_icmp_ge (tgt := 140) hx hb dX11_init_121 (by decide) (fun hc => absurd hc (by decide)) (fun hc => ?_)
  clear hc
  refine lv_aload_n hx hb dX11_init_124 rfl (lv_at hl 1 rfl) ?_
  refine z_getr (o := 1) C0 hW fl_X11_7 kw rfl k4 dX11_init_125 ?_
  refine lv_bipush (v := (17 : Int32)) hx hb dX11_init_128 (by decide) ?_
  refine lv_iload_n hx hb dX11_init_130 rfl (lv_at hl 0 rfl) ?_
  refine lv_iadd hx hb dX11_init_131 ?_
  refine z_as (y := (21 : Int32)) (by decide) ?_
  refine lv_iconst (v := (5 : Int32)) hx hb dX11_init_132 (by decide) ?_
  refine z_iastN (N := 705) C0 hW hS hZ k2 k3 (by decide) (k := 21) (by decide) dX11_init_133 (fun H locs hW hS hZ => ?_)
  refine lv_iinc (v := (5 : Int32)) (lv' := [(1, .int (5 : Int32)), (0, .ref (b + 0))]) hx hb dX11_init_134 hl (k := 0) rfl rfl (by decide) rfl (fun ls hl => ?_)
  refine lv_goto (tgt := 118) hx hb dX11_init_137 (by decide) ?_
  refine lv_iload_n hx hb dX11_init_118 rfl (lv_at hl 0 rfl) ?_
  refine lv_bipush (v := (8 : Int32)) hx hb dX11_init_119 (by decide) ?_
  refine lv_icmp_ge (tgt := 140) hx hb dX11_init_121 (by decide) (fun hc => absurd hc (by decide)) (fun hc => ?_)
  clear hc
  refine lv_aload_n hx hb dX11_init_124 rfl (lv_at hl 1 rfl) ?_
  refine z_getr (o := 1) C0 hW fl_X11_7 kw rfl k4 dX11_init_125 ?_
  refine lv_bipush (v := (17 : Int32)) hx hb dX11_init_128 (by decide) ?_
  refine lv_iload_n hx hb dX11_init_130 rfl (lv_at hl 0 rfl) ?_
  refine lv_iadd hx hb dX11_init_131 ?_
  refine z_as (y := (22 : Int32)) (by decide) ?_
  refine lv_iconst (v := (5 : Int32)) hx hb dX11_init_132 (by decide) ?_
  refine z_iastN (N := 705) C0 hW hS hZ k2 k3 (by decide) (k := 22) (by decide) dX11_init_133 (fun H locs hW hS hZ => ?_)
  refine lv_iinc (v := (6 : Int32)) (lv' := [(1, .int (6 : Int32)), (0, .ref (b + 0))]) hx hb dX11_init_134 hl (k := 0) rfl rfl (by decide) rfl (fun ls hl => ?_)
  refine lv_goto (tgt := 118) hx hb dX11_init_137 (by decide) ?_
  refine lv_iload_n hx hb dX11_init_118 rfl (lv_at hl 0 rfl) ?_
  refine lv_bipush (v := (8 : Int32)) hx hb dX11_init_119 (by decide) ?_
  refine lv_icmp_ge (tgt := 140) hx hb dX11_init_121 (by decide) (fun hc => absurd hc (by decide)) (fun hc => ?_)
  clear hc
  refine lv_aload_n hx hb dX11_init_124 rfl (lv_at hl 1 rfl) ?_
  refine z_getr (o := 1) C0 hW fl_X11_7 kw rfl k4 dX11_init_125 ?_
  refine lv_bipush (v := (17 : Int32)) hx hb dX11_init_128 (by decide) ?_
  refine lv_iload_n hx hb dX11_init_130 rfl (lv_at hl 0 rfl) ?_
  refine lv_iadd hx hb dX11_init_131 ?_
  refine z_as (y := (23 : Int32)) (by decide) ?_
  refine lv_iconst (v := (5 : Int32)) hx hb dX11_init_132 (by decide) ?_
  refine z_iastN (N := 705) C0 hW hS hZ k2 k3 (by decide) (k := 23) (by decide) dX11_init_133 (fun H locs hW hS hZ => ?_)
  refine lv_iinc (v := (7 : Int32)) (lv' := [(1, .int (7 : Int32)), (0, .ref (b + 0))]) hx hb dX11_init_134 hl (k := 0) rfl rfl (by decide) rfl (fun ls hl => ?_)
  refine lv_goto (tgt := 118) hx hb dX11_init_137 (by decide) ?_
  refine lv_iload_n hx hb dX11_init_118 rfl (lv_at hl 0 rfl) ?_
  refine lv_bipush (v := (8 : Int32)) hx hb dX11_init_119 (by decide) ?_
  refine lv_icmp_ge (tgt := 140) hx hb dX11_init_121 (by decide) (fun hc => absurd hc (by decide)) (fun hc => ?_)
  clear hc
  refine lv_aload_n hx hb dX11_init_124 rfl (lv_at hl 1 rfl) ?_
  refine z_getr (o := 1) C0 hW fl_X11_7 kw rfl k4 dX11_init_125 ?_
  refine lv_bipush (v := (17 : Int32)) hx hb dX11_init_128 (by decide) ?_
  refine lv_iload_n hx hb dX11_init_130 rfl (lv_at hl 0 rfl) ?_
  refine lv_iadd hx hb dX11_init_131 ?_
  refine z_as (y := (24 : Int32)) (by decide) ?_
  refine lv_iconst (v := (5 : Int32)) hx hb dX11_init_132 (by decide) ?_
  refine z_iastN (N := 705) C0 hW hS hZ k2 k3 (by decide) (k := 24) (by decide) dX11_init_133 (fun H locs hW hS hZ => ?_)
  refine lv_iinc (v := (8 : Int32)) (lv' := [(1, .int (8 : Int32)), (0, .ref (b + 0))]) hx hb dX11_init_134 hl (k := 0) rfl rfl (by decide) rfl (fun ls hl => ?_)
  refine lv_goto (tgt := 118) hx hb dX11_init_137 (by decide) ?_
  refine lv_iload_n hx hb dX11_init_118 rfl (lv_at hl 0 rfl) ?_
  refine lv_bipush (v := (8 : Int32)) hx hb dX11_init_119 (by decide) ?_
  refine lv_icmp_ge (tgt := 140) hx hb dX11_init_121 (by decide) (fun hc => ?_) (fun hc => absurd (by decide) hc)
  clear hc
  exact z_vretN C0 hr hlk hW hS hZ dX11_init_140
