/-! Acts.latest() and undo() -/
/-- the latest keep's number; none where nothing is kept -/
def f_X0_latest (u : zU) : Option (Option Nat) :=
  if u 38 2 = 0 then some none else (f_J9_floorMod_7cf53 ((u 38 1) - (1 : Int32)) (12 : Int32) u).bind (fun r => if z_in r 12 = true then some (some r.toNatClampNeg) else none)
theorem f_X0_latest_e (u : zU) : f_X0_latest u = if u 38 2 = 0 then some none else (f_J9_floorMod_7cf53 ((u 38 1) - (1 : Int32)) (12 : Int32) u).bind (fun r => if z_in r 12 = true then some (some r.toNatClampNeg) else none) := rfl
def z_kp (b : Nat) (v : Option Nat) : Value := va_rf (v.map (fun k => b + (40 + 14 * k)))
theorem c_X0_latest (l : Launch) (D : zD) (A : Nat → Prop) (b : Nat) (G : zG) (q : zq) (hT : zTop G q) (u : zU) {v : Option Nat} (h : f_X0_latest u = some v) : z_M l D A b (zg G q) yX0_latest cX0_latest 1 (some (.object "TopWheel$Keep")) 1 22 [.ref (b + 38)] u (some (z_kp b v)) u := by
  refine z_enter (by decide) (Nat.le_of_ble_eq_true rfl) ?_
  intro p e s m below meth c ls C0 hr hml hlk hW hS hl
  have hl : lv_has ls 1 [(0, .ref (b + 38))] := hl
  have hx := C0.1
  have hb := C0.2.1
  have hs := hT.1
  rw [f_X0_latest_e] at h
  refine lv_aload_n hx hb dX0_latest_0 rfl (lv_at hl 0 rfl) ?_
  refine z_geti C0 hW fl_X0_19 (zk1 (hs 38 (by decide))) rfl dX0_latest_1 ?_
  refine lv_if_ne (tgt := 11) hx hb dX0_latest_4 (by decide) (fun hc => ?_) (fun hc => ?_)
  · replace h := z_f h hc
    clear hc
    refine lv_aload_n hx hb dX0_latest_11 rfl (lv_at hl 0 rfl) ?_
    refine z_getr (o := 39) C0 hW fl_X0_11 (zk1 (hs 38 (by decide))) rfl (zk3 (hs 38 (by decide)) 0) dX0_latest_12 ?_
    refine lv_aload_n hx hb dX0_latest_15 rfl (lv_at hl 0 rfl) ?_
    refine z_geti C0 hW fl_X0_15 (zk1 (hs 38 (by decide))) rfl dX0_latest_16 ?_
    refine lv_iconst (v := (1 : Int32)) hx hb dX0_latest_19 (by decide) ?_
    refine lv_isub hx hb dX0_latest_20 ?_
    refine lv_bipush (v := (12 : Int32)) hx hb dX0_latest_21 (by decide) ?_
    replace h := z_bd h
    obtain ⟨r1, hq, h⟩ := h
    refine z_csi (As := [.int ((u 38 1) - (1 : Int32)), .int (12 : Int32)]) C0 hml hl.1 hW hS (c_J9_floorMod_7cf53 l D A b (zg G q) ((u 38 1) - (1 : Int32)) (12 : Int32) u hq) ms_X0_33 ⟨Nat.le_of_ble_eq_true rfl, Nat.le_of_ble_eq_true rfl⟩ rfl rfl (Nat.le_of_ble_eq_true rfl) dX0_latest_23 (fun H locs hW hS => ?_)
    clear hq
    replace h := z_if h
    obtain ⟨hin, h⟩ := h
    refine z_aald (o := 40 + 14 * (r1).toNatClampNeg) C0 hW (zk1 (hs 39 (by decide))) (zk2 (hs 39 (by decide))) hin rfl (zk3 (hs 39 (by decide)) _) dX0_latest_26 ?_
    cases h
    exact W.aret hx hb hr (Or.inl ⟨_, rfl⟩) (Or.inr ⟨_, rfl⟩) (fun t ht _ => ⟨rfl, by rw [ht]; exact hW, hS.F ht⟩) hS.2.2 dX0_latest_27 hlk
  · replace h := z_t h hc
    clear hc
    refine lv_null hx hb dX0_latest_7 ?_
    refine lv_goto (tgt := 27) hx hb dX0_latest_8 (by decide) ?_
    cases h
    exact W.aret hx hb hr (Or.inl ⟨_, rfl⟩) (Or.inl rfl) (fun t ht _ => ⟨rfl, by rw [ht]; exact hW, hS.F ht⟩) hS.2.2 dX0_latest_27 hlk
def f_X10_undo (q : zq) (u : zU) : Option (Bool × zq × zU) :=
  (f_X0_latest u).bind (fun o => match o with
    | none => some (false, q, u)
    | some k => if k < 13 then z_b3 (f_X10_goTo q k u) (fun w1 q1 u1 => (f_X0_drop q1 u1).bind (fun u2 => some (true, q1, u2))) else none)
theorem c_X10_undo (l : Launch) (D : zD) (A : Nat → Prop) (b : Nat) (G : zG) (q : zq) (hT : zTop G q) (u : zU) {v : Bool} {q' : zq} {u' : zU} (h : f_X10_undo q u = some (v, q', u')) : z_MT l D A b G yX10_undo cX10_undo 2 (some .boolean) 3 82 [.ref (b + 0)] q u (some (.int (bI v))) q' u' := by
  refine z_enterT (by decide) (Nat.le_of_ble_eq_true rfl) ?_
  intro p e s m below meth c ls C0 hr hml hlk hW hS hl
  have hl : lv_has ls 2 [(0, .ref (b + 0))] := hl
  have hx := C0.1
  have hb := C0.2.1
  have hs := hT.1
  unfold f_X10_undo at h
  refine lv_aload_n hx hb dX10_undo_0 rfl (lv_at hl 0 rfl) ?_
  refine z_getr (o := 38) C0 hW fl_X10_63 (zk1 (hs 0 (by decide))) rfl (zk3 (hs 0 (by decide)) 7) dX10_undo_1 ?_
  replace h := z_bd h
  obtain ⟨o, hq, h⟩ := h
  refine z_cv (v := some (z_kp b o)) (As := []) (rest := []) C0 hml hl.1 hW hS (c_X0_latest l D A b G q hT u hq) mv_X10_317 (zk1 (hs 38 (by decide))) ⟨Nat.le_of_ble_eq_true rfl, Nat.le_of_ble_eq_true rfl⟩ rfl rfl (Nat.le_of_ble_eq_true rfl) dX10_undo_4 (fun H locs hW hS => ?_)
  clear hq
  match o, h with
  | none, h =>
    refine lv_astore_nN (lv' := [(1, .null), (0, .ref (b + 0))]) hx hb dX10_undo_7 rfl hl (by decide) rfl (fun ls hl => ?_)
    refine lv_aload_nN hx hb dX10_undo_8 rfl (lv_at hl 0 rfl) ?_
    refine lv_ifnonnullN hx hb dX10_undo_9 ?_
    refine lv_iconst (v := (0 : Int32)) hx hb dX10_undo_12 (by decide) ?_
    cases h
    exact z_zretT (x := false) C0 hr hlk hW hS hT dX10_undo_13
  | some k, h =>
    replace h := z_if h
    obtain ⟨hk, h⟩ := h
    refine lv_astore_n (x := b + (40 + 14 * k)) (lv' := [(1, .ref (b + (40 + 14 * k))), (0, .ref (b + 0))]) hx hb dX10_undo_7 rfl hl (by decide) rfl (fun ls hl => ?_)
    refine lv_aload_n hx hb dX10_undo_8 rfl (lv_at hl 0 rfl) ?_
    refine lv_ifnonnull (tgt := 14) hx hb dX10_undo_9 (by decide) ?_
    refine lv_aload_n hx hb dX10_undo_14 rfl (lv_at hl 1 rfl) ?_
    refine lv_aload_n hx hb dX10_undo_15 rfl (lv_at hl 0 rfl) ?_
    replace h := z_bd3 h
    obtain ⟨w1, q3, u2, hq, h⟩ := h
    refine z_cvTv (As := [.ref (b + (40 + 14 * k))]) C0 hml hl.1 hW hS (c_X10_goTo l D A b G q k hT hk u hq) mv_X10_321 (zk1 (hs 0 (by decide))) ⟨Nat.le_of_ble_eq_true rfl, Nat.le_of_ble_eq_true rfl⟩ rfl rfl (Nat.le_of_ble_eq_true rfl) dX10_undo_16 (fun H locs hW hS hT => ?_)
    clear hq
    have hs := hT.1
    refine lv_aload_n hx hb dX10_undo_19 rfl (lv_at hl 1 rfl) ?_
    refine z_getr (o := 38) C0 hW fl_X10_63 (zk1 (hs 0 (by decide))) rfl (zk3 (hs 0 (by decide)) 7) dX10_undo_20 ?_
    replace h := z_bd h
    obtain ⟨u4, hq, h⟩ := h
    refine z_cvv (As := []) C0 hml hl.1 hW hS (c_X0_drop l D A b G q3 hT u2 hq) mv_X10_325 (zk1 (hs 38 (by decide))) ⟨Nat.le_of_ble_eq_true rfl, Nat.le_of_ble_eq_true rfl⟩ rfl rfl (Nat.le_of_ble_eq_true rfl) dX10_undo_23 (fun H locs hW hS => ?_)
    clear hq
    refine lv_iconst (v := (1 : Int32)) hx hb dX10_undo_26 (by decide) ?_
    cases h
    exact z_zretT (x := true) C0 hr hlk hW hS hT dX10_undo_27
