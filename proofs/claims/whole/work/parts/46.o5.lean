theorem c_X10_best (l : Launch) (D : zD) (A : Nat → Prop) (b : Nat) (G : zG) (n : Nat) (q : zq) (hT : zTop G q) (op : Int32 → Bool) (a1 : Int32) (u : zU) (hop : ∀ u1 : zU, (∀ r, (zg G q r).1 ≠ 0 → u1 r = u r) → ∀ c, f_X9_isOpen 6 (q 0) c u1 = some (op c)) {v : Int32} {q' : zq} {u' : zU} (h : f_X10_best op q a1 u = some (.inr v, q', u')) : z_MTN l D A b G n yX10_best cX10_best 5 (some .int) 7 112 7 56 [.ref (b + 0), .int a1] q u (some (.int v)) q' u' := by
  refine z_enterG (by decide) (Nat.le_of_ble_eq_true rfl) ?_
  intro p e s m below meth c ls C0 hr hml hlk hK2 hZ hA hW hS hl
  clear hZ
  have hl : lv_has ls 5 [(0, .ref (b + 0)), (1, .int a1)] := hl
  have hx := C0.1
  have hb := C0.2.1
  unfold f_X10_best at h
  refine lv_iload_n hx hb dX10_best_0 rfl (lv_at hl 1 rfl) ?_
  refine lv_iconst (v := (1 : Int32)) hx hb dX10_best_1 (by decide) ?_
  refine lv_iconst (v := (5 : Int32)) hx hb dX10_best_2 (by decide) ?_
  replace h := z_bxd h
  rcases h with ⟨E1, hq, hE⟩ | ⟨w1, q2, u2, hq, h⟩
  · cases hE
  refine z_csTv (As := [.int a1, .int 1, .int 5]) C0 hml hl.1 hW hS (c_X10_needNumber l D A b G _ hT a1 1 5 _ hq) ms_X10_287 ⟨Nat.le_of_ble_eq_true rfl, Nat.le_of_ble_eq_true rfl⟩ rfl rfl (Nat.le_of_ble_eq_true rfl) dX10_best_3 (fun H locs hW hS hT => ?_)
  obtain ⟨rfl, rfl⟩ := f_needNumber_eq hq
  clear hq
  have hs := hT.1
  replace h := z_bd h
  obtain ⟨v1, hq, h⟩ := h
  replace h := z_bd h
  obtain ⟨v2, hq2, h⟩ := h
  have k0 := zk1 (hs 0 (by decide))
  have hZ := hW.sz k0
  refine lv_aload_n hx hb dX10_best_6 rfl (lv_at hl 0 rfl) ?_
  refine lv_iload_n hx hb dX10_best_7 rfl (lv_at hl 1 rfl) ?_
  refine z_cO C0 hK2 hml hl.1 hW hS hZ hA (c_X10_oddsBy l D A b _ _ k0 (zk3 (hs 0 (by decide)) 2) (zT0 hT).1 a1 _ hq) k0 ⟨Nat.le_of_ble_eq_true rfl, Nat.le_of_ble_eq_true rfl⟩ ⟨Nat.le_of_ble_eq_true rfl, Nat.le_of_ble_eq_true rfl⟩ (Nat.le_of_ble_eq_true rfl) dX10_best_8 (fun H1 locs r g1 u3 hW1 hS hlow hn hgr hur => ?_)
  have hext : ∀ r, (zg G _ r).1 ≠ 0 → g1 r = zg G _ r ∧ u3 r = _ := fun r hne => hlow r (hW.ltn hZ hne)
  have e0 := hext 0 (by rw [k0]; decide)
  refine lv_astore_n (lv' := [(2, .ref (b + r)), (0, .ref (b + 0)), (1, .int a1)]) hx hb dX10_best_11 rfl hl (by decide) rfl (fun ls hl => ?_)
  refine lv_iconst (v := (-1 : Int32)) hx hb dX10_best_12 (by decide) ?_
  refine lv_istore_n (lv' := [(3, .int (-1)), (2, .ref (b + r)), (0, .ref (b + 0)), (1, .int a1)]) hx hb dX10_best_13 rfl hl (by decide) rfl (fun ls hl => ?_)
  refine lv_iconst (v := (0 : Int32)) hx hb dX10_best_14 (by decide) ?_
  refine lv_istore (lv' := [(4, .int 0), (3, .int (-1)), (2, .ref (b + r)), (0, .ref (b + 0)), (1, .int a1)]) hx hb dX10_best_15 hl (by decide) rfl (fun ls hl => ?_)
  refine lo_best (L := _) (a1 := a1) C0 hml ⟨Nat.le_of_ble_eq_true rfl, Nat.le_of_ble_eq_true rfl⟩ ⟨Nat.le_of_ble_eq_true rfl, Nat.le_of_ble_eq_true rfl⟩ (by rw [e0.1]; exact k0) (by rw [e0.1]; exact zk3 (hs 0 (by decide)) 2) (zWh_ext (zT0 hT) (fun r hne => (hext r hne).1)) (hop u3 (fun r hne => (hext r hne).2)) hgr hur (fun H locs ls hW2 hS hl => ?_) 5000 (-1) 0 H1 locs ls hq2 hW1 hS hl
  refine lv_iload_n hx hb dX10_best_60 rfl (lv_at hl 0 rfl) ?_
  cases h
  exact W.iret hx hb hr (fun t ht _ => ⟨rfl, by rw [ht]; exact hW2.back hW hZ hlow, hS.F ht, hT⟩) hS.2.2 dX10_best_61 hlk
theorem t_X10_best (l : Launch) (D : zD) (A : Nat → Prop) (b : Nat) (G : zG) (q : zq) (hT : zTop G q) (hst : l.stackTraces = false) (op : Int32 → Bool) (a1 : Int32) (u : zU) {E : String} {q' : zq} {u' : zU} (h : f_X10_best op q a1 u = some (.inl E, q', u')) : z_TX l D A b G yX10_best cX10_best 5 (some .int) 7 112 [.ref (b + 0), .int a1] q u E q' u' := by
  refine z_enterX (by decide) (Nat.le_of_ble_eq_true rfl) ?_
  intro p e s m below meth c ls C0 hex hml hlk hW hS hl
  have hl : lv_has ls 5 [(0, .ref (b + 0)), (1, .int a1)] := hl
  have hx := C0.1
  have hb := C0.2.1
  unfold f_X10_best at h
  refine lv_iload_n hx hb dX10_best_0 rfl (lv_at hl 1 rfl) ?_
  refine lv_iconst (v := (1 : Int32)) hx hb dX10_best_1 (by decide) ?_
  refine lv_iconst (v := (5 : Int32)) hx hb dX10_best_2 (by decide) ?_
  replace h := z_bxd h
  rcases h with ⟨E1, hq, hE⟩ | ⟨w1, q2, u2, hq, h⟩
  · cases hE
    exact z_csX (As := [.int a1, .int 1, .int 5]) C0 hml hl.1 hW hS hex hlk (t_X10_needNumber l D A b G _ hT hst a1 1 5 _ hq) ms_X10_287 ⟨Nat.le_of_ble_eq_true rfl, Nat.le_of_ble_eq_true rfl⟩ ⟨Nat.le_of_ble_eq_true rfl, Nat.le_of_ble_eq_true rfl⟩ rfl rfl (Nat.le_of_ble_eq_true rfl) dX10_best_3
  replace h := z_bd h
  obtain ⟨v1, hq, h⟩ := h
  replace h := z_bd h
  obtain ⟨v2, hq2, h⟩ := h
  cases h
theorem c_X10_rules (l : Launch) (D : zD) (A : Nat → Prop) (b : Nat) (G : zG) (n : Nat) (q : zq) (hT : zTop G q) (fi : Int32 → Int32) (a1 a2 : Int32) (u : zU) (hfi : ∀ u1 : zU, (∀ r, (zg G q r).1 ≠ 0 → u1 r = u r) → ∀ c, f_X9_firstIn 6 (q 0) c u1 = some (fi c)) {v : Int32} {q' : zq} {u' : zU} (h : f_X10_rules fi q a1 a2 u = some (.inr v, q', u')) : z_MTN l D A b G n yX10_rules cX10_rules 7 (some .int) 7 112 7 56 [.ref (b + 0), .int a1, .int a2] q u (some (.int v)) q' u' := by
  refine z_enterG (by decide) (Nat.le_of_ble_eq_true rfl) ?_
  intro p e s m below meth c ls C0 hr hml hlk hK2 hZ hA hW hS hl
  clear hZ
  have hl : lv_has ls 7 [(0, .ref (b + 0)), (1, .int a1), (2, .int a2)] := hl
  have hx := C0.1
  have hb := C0.2.1
  unfold f_X10_rules at h
  refine lv_iload_n hx hb dX10_rules_0 rfl (lv_at hl 1 rfl) ?_
  replace h := z_bxd h
  rcases h with ⟨E1, hq, hE⟩ | ⟨w1, q1, u1, hq, h⟩
  · cases hE
  refine z_csTv (As := [.int a1]) C0 hml hl.1 hW hS (c_X10_needParty l D A b G q hT a1 u hq) ms_X10_194 ⟨Nat.le_of_ble_eq_true rfl, Nat.le_of_ble_eq_true rfl⟩ rfl rfl (Nat.le_of_ble_eq_true rfl) dX10_rules_1 (fun H locs hW hS hT => ?_)
  obtain ⟨rfl, rfl⟩ := f_needParty_eq hq
  clear hq
  refine lv_iload_n hx hb dX10_rules_4 rfl (lv_at hl 2 rfl) ?_
  refine lv_iconst (v := (1 : Int32)) hx hb dX10_rules_5 (by decide) ?_
  refine lv_iconst (v := (5 : Int32)) hx hb dX10_rules_6 (by decide) ?_
  replace h := z_bxd h
  rcases h with ⟨E1, hq, hE⟩ | ⟨w1, q2, u2, hq, h⟩
  · cases hE
  refine z_csTv (As := [.int a2, .int 1, .int 5]) C0 hml hl.1 hW hS (c_X10_needNumber l D A b G _ hT a2 1 5 _ hq) ms_X10_287 ⟨Nat.le_of_ble_eq_true rfl, Nat.le_of_ble_eq_true rfl⟩ rfl rfl (Nat.le_of_ble_eq_true rfl) dX10_rules_7 (fun H locs hW hS hT => ?_)
  obtain ⟨rfl, rfl⟩ := f_needNumber_eq hq
  clear hq
  have hs := hT.1
  replace h := z_bd h
  obtain ⟨v1, hq, h⟩ := h
  replace h := z_bd h
  obtain ⟨v2, hq2, h⟩ := h
  have k0 := zk1 (hs 0 (by decide))
  have hZ := hW.sz k0
  refine lv_aload_n hx hb dX10_rules_10 rfl (lv_at hl 0 rfl) ?_
  refine lv_iload_n hx hb dX10_rules_11 rfl (lv_at hl 2 rfl) ?_
  refine z_cO C0 hK2 hml hl.1 hW hS hZ hA (c_X10_oddsBy l D A b _ _ k0 (zk3 (hs 0 (by decide)) 2) (zT0 hT).1 a2 _ hq) k0 ⟨Nat.le_of_ble_eq_true rfl, Nat.le_of_ble_eq_true rfl⟩ ⟨Nat.le_of_ble_eq_true rfl, Nat.le_of_ble_eq_true rfl⟩ (Nat.le_of_ble_eq_true rfl) dX10_rules_12 (fun H1 locs r g1 u3 hW1 hS hlow hn hgr hur => ?_)
  have hext : ∀ r, (zg G _ r).1 ≠ 0 → g1 r = zg G _ r ∧ u3 r = _ := fun r hne => hlow r (hW.ltn hZ hne)
  have e0 := hext 0 (by rw [k0]; decide)
  refine lv_astore_n (lv' := [(3, .ref (b + r)), (0, .ref (b + 0)), (1, .int a1), (2, .int a2)]) hx hb dX10_rules_15 rfl hl (by decide) rfl (fun ls hl => ?_)
  refine lv_iconst (v := (0 : Int32)) hx hb dX10_rules_16 (by decide) ?_
  refine lv_istore (lv' := [(4, .int 0), (3, .ref (b + r)), (0, .ref (b + 0)), (1, .int a1), (2, .int a2)]) hx hb dX10_rules_17 hl (by decide) rfl (fun ls hl => ?_)
  refine lv_iconst (v := (0 : Int32)) hx hb dX10_rules_19 (by decide) ?_
  refine lv_istore (lv' := [(5, .int 0), (4, .int 0), (3, .ref (b + r)), (0, .ref (b + 0)), (1, .int a1), (2, .int a2)]) hx hb dX10_rules_20 hl (by decide) rfl (fun ls hl => ?_)
  have e10 := (hext 10 (by rw [((zT0 hT).2.1 3 (by decide)).2.1]; decide)).2
  rw [← e10] at hq2
  refine lo_rules (L := _) (a2 := a2) C0 hml ⟨Nat.le_of_ble_eq_true rfl, Nat.le_of_ble_eq_true rfl⟩ ⟨Nat.le_of_ble_eq_true rfl, Nat.le_of_ble_eq_true rfl⟩ (by rw [e0.1]; exact k0) (by rw [e0.1]; exact zk3 (hs 0 (by decide)) 2) (zWh_ext (zT0 hT) (fun r hne => (hext r hne).1)) (hfi u3 (fun r hne => (hext r hne).2)) hgr hur (fun H locs ls hW2 hS hl => ?_) 5000 0 0 H1 locs ls hq2 hW1 hS hl
  refine lv_iload hx hb dX10_rules_75 (lv_at hl 0 rfl) ?_
  cases h
  exact W.iret hx hb hr (fun t ht _ => ⟨rfl, by rw [ht]; exact hW2.back hW hZ hlow, hS.F ht, hT⟩) hS.2.2 dX10_rules_77 hlk
theorem t_X10_rules (l : Launch) (D : zD) (A : Nat → Prop) (b : Nat) (G : zG) (q : zq) (hT : zTop G q) (hst : l.stackTraces = false) (fi : Int32 → Int32) (a1 a2 : Int32) (u : zU) {E : String} {q' : zq} {u' : zU} (h : f_X10_rules fi q a1 a2 u = some (.inl E, q', u')) : z_TX l D A b G yX10_rules cX10_rules 7 (some .int) 7 112 [.ref (b + 0), .int a1, .int a2] q u E q' u' := by
  refine z_enterX (by decide) (Nat.le_of_ble_eq_true rfl) ?_
  intro p e s m below meth c ls C0 hex hml hlk hW hS hl
  have hl : lv_has ls 7 [(0, .ref (b + 0)), (1, .int a1), (2, .int a2)] := hl
  have hx := C0.1
  have hb := C0.2.1
  unfold f_X10_rules at h
  refine lv_iload_n hx hb dX10_rules_0 rfl (lv_at hl 1 rfl) ?_
  replace h := z_bxd h
  rcases h with ⟨E1, hq, hE⟩ | ⟨w1, q1, u1, hq, h⟩
  · cases hE
    exact z_csX (As := [.int a1]) C0 hml hl.1 hW hS hex hlk (t_X10_needParty l D A b G q hT hst a1 u hq) ms_X10_194 ⟨Nat.le_of_ble_eq_true rfl, Nat.le_of_ble_eq_true rfl⟩ ⟨Nat.le_of_ble_eq_true rfl, Nat.le_of_ble_eq_true rfl⟩ rfl rfl (Nat.le_of_ble_eq_true rfl) dX10_rules_1
  refine z_csTv (As := [.int a1]) C0 hml hl.1 hW hS (c_X10_needParty l D A b G q hT a1 u hq) ms_X10_194 ⟨Nat.le_of_ble_eq_true rfl, Nat.le_of_ble_eq_true rfl⟩ rfl rfl (Nat.le_of_ble_eq_true rfl) dX10_rules_1 (fun H locs hW hS hT => ?_)
  obtain ⟨rfl, rfl⟩ := f_needParty_eq hq
  clear hq
  refine lv_iload_n hx hb dX10_rules_4 rfl (lv_at hl 2 rfl) ?_
  refine lv_iconst (v := (1 : Int32)) hx hb dX10_rules_5 (by decide) ?_
  refine lv_iconst (v := (5 : Int32)) hx hb dX10_rules_6 (by decide) ?_
  replace h := z_bxd h
  rcases h with ⟨E1, hq, hE⟩ | ⟨w1, q2, u2, hq, h⟩
  · cases hE
    exact z_csX (As := [.int a2, .int 1, .int 5]) C0 hml hl.1 hW hS hex hlk (t_X10_needNumber l D A b G _ hT hst a2 1 5 _ hq) ms_X10_287 ⟨Nat.le_of_ble_eq_true rfl, Nat.le_of_ble_eq_true rfl⟩ ⟨Nat.le_of_ble_eq_true rfl, Nat.le_of_ble_eq_true rfl⟩ rfl rfl (Nat.le_of_ble_eq_true rfl) dX10_rules_7
  replace h := z_bd h
  obtain ⟨v1, hq, h⟩ := h
  replace h := z_bd h
  obtain ⟨v2, hq2, h⟩ := h
  cases h
