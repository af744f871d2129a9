theorem t_X10_law (l : Launch) (D : zD) (A : Nat → Prop) (b : Nat) (G : zG) (q : zq) (hT : zTop G q) (hst : l.stackTraces = false) (u : zU) {E : String} {q' : zq} {u' : zU} (h : f_X10_law 222 q u = some (.inl E, q', u')) : z_TX l D A b G yX10_law cX10_law 1 (some .int) 40 1400 [.ref (b + 0)] q u E q' u' := by
  refine z_enterX (by decide) (Nat.le_of_ble_eq_true rfl) ?_
  intro p e s m below meth c ls C0 hex hml hlk hW hS hl
  have hl : lv_has ls 1 [(0, .ref (b + 0))] := hl
  have hx := C0.1
  have hb := C0.2.1
  have hs := hT.1
  refine lv_aload_n hx hb dX10_law_0 rfl (lv_at hl 0 rfl) ?_
  refine z_getr (o := 29) C0 hW fl_X10_49 (zk1 (hs 0 (by decide))) rfl (zk3 (hs 0 (by decide)) 5) dX10_law_1 ?_
  refine z_cvv (As := []) C0 hml hl.1 hW hS (c_X5_clear l D A b (zg G q) hs u rfl) mv_X10_112 (zk1 (hs 29 (by decide))) ⟨Nat.le_of_ble_eq_true rfl, Nat.le_of_ble_eq_true rfl⟩ rfl rfl (Nat.le_of_ble_eq_true rfl) dX10_law_4 (fun H locs hW hS => ?_)
  refine lv_aload_n hx hb dX10_law_7 rfl (lv_at hl 0 rfl) ?_
  refine z_getr (o := 29) C0 hW fl_X10_49 (zk1 (hs 0 (by decide))) rfl (zk3 (hs 0 (by decide)) 5) dX10_law_8 ?_
  unfold f_X10_law at h
  obtain ⟨u2, hq, h⟩ := z_bd h
  refine z_cuv (As := []) C0 hml hl.1 hW hS (c_X6_readL l D A b (zg G q) hs _ hq) mu_X10_115_X5 rfl (zk1 (hs 29 (by decide))) ⟨Nat.le_of_ble_eq_true rfl, Nat.le_of_ble_eq_true rfl⟩ rfl rfl (Nat.le_of_ble_eq_true rfl) dX10_law_11 (fun H locs hW hS => ?_)
  refine lv_aload_n hx hb dX10_law_14 rfl (lv_at hl 0 rfl) ?_
  rcases z_bxd h with ⟨E1, h1, hE⟩ | ⟨r, q1, u1, h1, h⟩
  · cases hE
    exact z_cvX (As := []) C0 hml hl.1 hW hS hex hlk (t_X10_useText l D A b G q hT hst u2 h1) mv_X10_99 (zk1 (hs 0 (by decide))) ⟨Nat.le_of_ble_eq_true rfl, Nat.le_of_ble_eq_true rfl⟩ ⟨Nat.le_of_ble_eq_true rfl, Nat.le_of_ble_eq_true rfl⟩ rfl rfl (Nat.le_of_ble_eq_true rfl) dX10_law_15
  · replace h := z_if h
    cases h.2
