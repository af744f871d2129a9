/-! Law(LawReader) and law() -/
/-- the shape behind Law(LawReader): the law at w, its rows from n on -/
def gLw (g : zG) (w n N M : Nat) : zG := zgs (zal (zgs (zal (zgs (zal (zgs (zal (zgs (zal (zgs (zal (zgs (zal g n (1, N, zNo)) w 1 n) (n + 1) (1, N, zNo)) w 2 (n + 1)) (n + 2) (1, N, zNo)) w 3 (n + 2)) (n + 3) (1, M, zNo)) w 4 (n + 3)) (n + 4) (1, M, zNo)) w 5 (n + 4)) (n + 5) (1, M, zNo)) w 6 (n + 5)) (n + 6) (1, M, zNo)) w 7 (n + 6)
def uLw (u : zU) (w n : Nat) : zU := zst (zst (zst (zst (zst (zst (zst (z_up u w 0 (u 29 8)) n (u 30)) (n + 1) (u 31)) (n + 2) (u 32)) (n + 3) (u 33)) (n + 4) (u 34)) (n + 5) (u 35)) (n + 6) zO0
theorem zst_n {u : zU} {n r : Nat} {f : Nat → Int32} (h : r ≠ n) : zst u n f r = u r := if_neg h
theorem zst_e {u : zU} {n : Nat} {f : Nat → Int32} : zst u n f n = f := if_pos rfl
theorem zgs_o {g : zG} {r r' : Nat} (k o : Nat) (h : r' ≠ r) : zgs g r k o r' = g r' := by unfold zgs; rw [if_neg h]
set_option maxRecDepth 100000 in
set_option maxHeartbeats 4000000 in
theorem c_X4_init_ (l : Launch) (D : zD) (A : Nat → Prop) (b : Nat) (g : zG) (u : zU) (w n N M : Nat) (kw : (g w).1 = 8) (hwn : w < n) (hn : 36 ≤ n) (hw9 : 36 ≤ w) (k29 : g 29 = gS 29) (ka : ∀ j, j < 3 → g (30 + j) = (1, 12, zNo)) (kb : ∀ j, j < 3 → g (33 + j) = (1, 400, zNo)) (hN : (u 29 8).toNatClampNeg = N ∧ ¬ (u 29 8) < 0) (hN1 : N ≤ 12) (hM : (u 29 9).toNatClampNeg = M ∧ ¬ (u 29 9) < 0) (hM1 : M ≤ 400) :
    z_MN l D A b g n yX4_init_ cX4_init_ 2 none 2 80 7 (3 * N + 4 * M) [.ref (b + w), .ref (b + 29)] u none (gLw g w n N M) (n + 7) (uLw u w n) := by
  have ow : ∀ k, w ≠ n + k := fun k => by omega
  have o29 : ∀ k, 29 ≠ n + k := fun k => by omega
  have o30 : ∀ j, j < 3 → ∀ k, 30 + j ≠ n + k := fun j hj k => by omega
  have o33 : ∀ j, j < 3 → ∀ k, 33 + j ≠ n + k := fun j hj k => by omega
  have o30w : ∀ j, j < 3 → 30 + j ≠ w := fun j hj => by omega
  have o33w : ∀ j, j < 3 → 33 + j ≠ w := fun j hj => by omega
  have o29w : 29 ≠ w := by omega
  have ow0 : w ≠ n := by omega
  have o290 : 29 ≠ n := by omega
  have o300 : ∀ j, j < 3 → 30 + j ≠ n := fun j hj => by omega
  have o330 : ∀ j, j < 3 → 33 + j ≠ n := fun j hj => by omega
  have orr0 : ∀ r, r < n → r ≠ n := fun r hr => by omega
  have orr : ∀ r, r < n → ∀ k, r ≠ n + k := fun r hr k => by omega
  have q3w : ∀ k, k < 6 → 30 + k ≠ w := fun k hk => by omega
  have q3n : ∀ k, k < 6 → ∀ i, 30 + k < n + i := fun k hk i => by omega
  have hs1 : 0 + N ≤ 3 * N + 4 * M := by omega
  have hs2 : 0 + N + N ≤ 3 * N + 4 * M := by omega
  have hs3 : 0 + N + N + N ≤ 3 * N + 4 * M := by omega
  have hs4 : 0 + N + N + N + M ≤ 3 * N + 4 * M := by omega
  have hs5 : 0 + N + N + N + M + M ≤ 3 * N + 4 * M := by omega
  have hs6 : 0 + N + N + N + M + M + M ≤ 3 * N + 4 * M := by omega
  have hs7 : 0 + N + N + N + M + M + M + M ≤ 3 * N + 4 * M := by omega
  refine z_enterN (by decide) (Nat.le_of_ble_eq_true rfl) ?_
  intro p e s m below meth c ls C0 hr hml hlk hin0 hK2 hZ hA hW hS hl
  have hl : lv_has ls 2 [(0, .ref (b + w)), (1, .ref (b + 29))] := hl
  have hx := C0.1
  have hb := C0.2.1
  unfold gLw uLw
  have f29 : ∀ j, (g 29).2.2 j = (gS 29).2.2 j := fun j => by rw [k29]
  have k29' : (g 29).1 = 9 := by rw [k29]; rfl
  have u29 : ∀ j, (z_up u w 0 (u 29 8)) 29 j = u 29 j := fun j => by rw [z_up_ne (by omega)]
  have eqa : ∀ r, r ≠ w → (z_up u w 0 (u 29 8)) r = u r := fun r h => z_up_ne h
  refine lv_aload_n hx hb dX4_init__0 rfl (lv_at hl 0 rfl) ?_
  refine z_oi C0 (hml.trans hl.1.symm) oi_X4_3 dX4_init__1 ⟨Nat.le_of_ble_eq_true rfl, Nat.le_of_ble_eq_true rfl⟩ ?_
  refine lv_aload_n hx hb dX4_init__4 rfl (lv_at hl 0 rfl) ?_
  refine lv_aload_n hx hb dX4_init__5 rfl (lv_at hl 1 rfl) ?_
  refine z_geti C0 hW fl_X4_37 k29' rfl dX4_init__6 ?_
  refine z_putFi C0 hin0 hW hS hZ fl_X4_9 ⟨_, _, _, rfl, rfl⟩ kw rfl rfl rfl dX4_init__9 (fun H locs hW hS hZ => ?_)
  refine lv_aload_n hx hb dX4_init__12 rfl (lv_at hl 0 rfl) ?_
  refine lv_aload_n hx hb dX4_init__13 rfl (lv_at hl 1 rfl) ?_
  refine z_getr (o := 30) C0 hW fl_X4_40 k29' rfl ((f29 2).trans rfl) dX4_init__14 ?_
  refine lv_aload_n hx hb dX4_init__17 rfl (lv_at hl 1 rfl) ?_
  refine z_geti C0 hW fl_X4_37 k29' rfl dX4_init__18 ?_
  rw [show ((z_up u w 0 (u 29 8))) 29 8 = u 29 8 from u29 8]
  refine z_csN (v := some (.ref (b + n))) (As := [.ref (b + 30), .int (u 29 8)]) (rest := [.ref (b + w)]) C0 hK2 hml hl.1 hW hS hZ hA (c_J7_copyOf l D A b _ _ n 30 12 N (u 29 8) (by rw [ka 0 (by decide)]) (by rw [ka 0 (by decide)]) (q3n 0 (by decide) 0) hN hN1 (by decide)) ms_X4_41 ⟨Nat.le_of_ble_eq_true rfl, Nat.le_of_ble_eq_true rfl⟩ ⟨Nat.le_of_ble_eq_true rfl, hs1⟩ rfl rfl (Nat.le_of_ble_eq_true rfl) dX4_init__21 (fun H locs hW hS hZ => ?_)
  replace hZ : H.size = b + (n + 1) := hZ
  replace kw := (zal_n1 _ (1, N, zNo) ow0).trans kw
  replace k29' := (zal_n1 _ (1, N, zNo) o290).trans k29'
  replace f29 := fun j => (zal_n3 _ j (1, N, zNo) o290).trans (f29 j)
  replace ka := fun j hj => (zal_n _ (1, N, zNo) (o300 j hj)).trans (ka j hj)
  replace kb := fun j hj => (zal_n _ (1, N, zNo) (o330 j hj)).trans (kb j hj)
  rw [eqa 30 (q3w 0 (by decide))] at hW
  replace u29 := fun j => (congrFun (zst_n (f := u 30) o290) j).trans (u29 j)
  replace eqa := fun r hr (hrn : r < n) => (zst_n (f := u 30) (orr0 r hrn)).trans (eqa r hr)
  refine z_putFr C0 hin0 hW hS hZ fl_X4_15 ⟨_, _, _, rfl, rfl⟩ kw rfl rfl rfl dX4_init__24 (fun H locs hW hS hZ => ?_)
  replace kw := (zgs_1 _ w 1 n w).trans kw
  replace k29' := (zgs_1 _ w 1 n 29).trans k29'
  replace f29 := fun j => (zgs_r (r' := 29) _ 1 n j o29w).trans (f29 j)
  replace ka := fun j hj => (zgs_o (r' := 30 + j) 1 n (o30w j hj)).trans (ka j hj)
  replace kb := fun j hj => (zgs_o (r' := 33 + j) 1 n (o33w j hj)).trans (kb j hj)
  refine lv_aload_n hx hb dX4_init__27 rfl (lv_at hl 0 rfl) ?_
  refine lv_aload_n hx hb dX4_init__28 rfl (lv_at hl 1 rfl) ?_
  refine z_getr (o := 31) C0 hW fl_X4_47 k29' rfl ((f29 3).trans rfl) dX4_init__29 ?_
  refine lv_aload_n hx hb dX4_init__32 rfl (lv_at hl 1 rfl) ?_
  refine z_geti C0 hW fl_X4_37 k29' rfl dX4_init__33 ?_
  rw [show (zst (z_up u w 0 (u 29 8)) n (u 30)) 29 8 = u 29 8 from u29 8]
  refine z_csN (v := some (.ref (b + (n + 1)))) (As := [.ref (b + 31), .int (u 29 8)]) (rest := [.ref (b + w)]) C0 hK2 hml hl.1 hW hS hZ hA (c_J7_copyOf l D A b _ _ (n + 1) 31 12 N (u 29 8) (by rw [ka 1 (by decide)]) (by rw [ka 1 (by decide)]) (q3n 1 (by decide) 1) hN hN1 (by decide)) ms_X4_41 ⟨Nat.le_of_ble_eq_true rfl, Nat.le_of_ble_eq_true rfl⟩ ⟨Nat.le_of_ble_eq_true rfl, hs2⟩ rfl rfl (Nat.le_of_ble_eq_true rfl) dX4_init__36 (fun H locs hW hS hZ => ?_)
  replace hZ : H.size = b + (n + 2) := hZ
  replace kw := (zal_n1 _ (1, N, zNo) (ow 1)).trans kw
  replace k29' := (zal_n1 _ (1, N, zNo) (o29 1)).trans k29'
  replace f29 := fun j => (zal_n3 _ j (1, N, zNo) (o29 1)).trans (f29 j)
  replace ka := fun j hj => (zal_n _ (1, N, zNo) (o30 j hj 1)).trans (ka j hj)
  replace kb := fun j hj => (zal_n _ (1, N, zNo) (o33 j hj 1)).trans (kb j hj)
  rw [eqa 31 (q3w 1 (by decide)) (q3n 1 (by decide) 0)] at hW
  replace u29 := fun j => (congrFun (zst_n (f := u 31) (o29 1)) j).trans (u29 j)
  replace eqa := fun r hr (hrn : r < n) => (zst_n (f := u 31) (orr r hrn 1)).trans (eqa r hr hrn)
  refine z_putFr C0 hin0 hW hS hZ fl_X4_19 ⟨_, _, _, rfl, rfl⟩ kw rfl rfl rfl dX4_init__39 (fun H locs hW hS hZ => ?_)
  replace kw := (zgs_1 _ w 2 (n + 1) w).trans kw
  replace k29' := (zgs_1 _ w 2 (n + 1) 29).trans k29'
  replace f29 := fun j => (zgs_r (r' := 29) _ 2 (n + 1) j o29w).trans (f29 j)
  replace ka := fun j hj => (zgs_o (r' := 30 + j) 2 (n + 1) (o30w j hj)).trans (ka j hj)
  replace kb := fun j hj => (zgs_o (r' := 33 + j) 2 (n + 1) (o33w j hj)).trans (kb j hj)
  refine lv_aload_n hx hb dX4_init__42 rfl (lv_at hl 0 rfl) ?_
  refine lv_aload_n hx hb dX4_init__43 rfl (lv_at hl 1 rfl) ?_
  refine z_getr (o := 32) C0 hW fl_X4_48 k29' rfl ((f29 4).trans rfl) dX4_init__44 ?_
  refine lv_aload_n hx hb dX4_init__47 rfl (lv_at hl 1 rfl) ?_
  refine z_geti C0 hW fl_X4_37 k29' rfl dX4_init__48 ?_
  rw [show (zst (zst (z_up u w 0 (u 29 8)) n (u 30)) (n + 1) (u 31)) 29 8 = u 29 8 from u29 8]
  refine z_csN (v := some (.ref (b + (n + 2)))) (As := [.ref (b + 32), .int (u 29 8)]) (rest := [.ref (b + w)]) C0 hK2 hml hl.1 hW hS hZ hA (c_J7_copyOf l D A b _ _ (n + 2) 32 12 N (u 29 8) (by rw [ka 2 (by decide)]) (by rw [ka 2 (by decide)]) (q3n 2 (by decide) 2) hN hN1 (by decide)) ms_X4_41 ⟨Nat.le_of_ble_eq_true rfl, Nat.le_of_ble_eq_true rfl⟩ ⟨Nat.le_of_ble_eq_true rfl, hs3⟩ rfl rfl (Nat.le_of_ble_eq_true rfl) dX4_init__51 (fun H locs hW hS hZ => ?_)
  replace hZ : H.size = b + (n + 3) := hZ
  replace kw := (zal_n1 _ (1, N, zNo) (ow 2)).trans kw
  replace k29' := (zal_n1 _ (1, N, zNo) (o29 2)).trans k29'
  replace f29 := fun j => (zal_n3 _ j (1, N, zNo) (o29 2)).trans (f29 j)
  replace ka := fun j hj => (zal_n _ (1, N, zNo) (o30 j hj 2)).trans (ka j hj)
  replace kb := fun j hj => (zal_n _ (1, N, zNo) (o33 j hj 2)).trans (kb j hj)
  rw [eqa 32 (q3w 2 (by decide)) (q3n 2 (by decide) 0)] at hW
  replace u29 := fun j => (congrFun (zst_n (f := u 32) (o29 2)) j).trans (u29 j)
  replace eqa := fun r hr (hrn : r < n) => (zst_n (f := u 32) (orr r hrn 2)).trans (eqa r hr hrn)
  refine z_putFr C0 hin0 hW hS hZ fl_X4_22 ⟨_, _, _, rfl, rfl⟩ kw rfl rfl rfl dX4_init__54 (fun H locs hW hS hZ => ?_)
  replace kw := (zgs_1 _ w 3 (n + 2) w).trans kw
  replace k29' := (zgs_1 _ w 3 (n + 2) 29).trans k29'
  replace f29 := fun j => (zgs_r (r' := 29) _ 3 (n + 2) j o29w).trans (f29 j)
  replace ka := fun j hj => (zgs_o (r' := 30 + j) 3 (n + 2) (o30w j hj)).trans (ka j hj)
  replace kb := fun j hj => (zgs_o (r' := 33 + j) 3 (n + 2) (o33w j hj)).trans (kb j hj)
  refine lv_aload_n hx hb dX4_init__57 rfl (lv_at hl 0 rfl) ?_
  refine lv_aload_n hx hb dX4_init__58 rfl (lv_at hl 1 rfl) ?_
  refine z_getr (o := 33) C0 hW fl_X4_49 k29' rfl ((f29 5).trans rfl) dX4_init__59 ?_
  refine lv_aload_n hx hb dX4_init__62 rfl (lv_at hl 1 rfl) ?_
  refine z_geti C0 hW fl_X4_50 k29' rfl dX4_init__63 ?_
  rw [show (zst (zst (zst (z_up u w 0 (u 29 8)) n (u 30)) (n + 1) (u 31)) (n + 2) (u 32)) 29 9 = u 29 9 from u29 9]
  refine z_csN (v := some (.ref (b + (n + 3)))) (As := [.ref (b + 33), .int (u 29 9)]) (rest := [.ref (b + w)]) C0 hK2 hml hl.1 hW hS hZ hA (c_J7_copyOf l D A b _ _ (n + 3) 33 400 M (u 29 9) (by rw [kb 0 (by decide)]) (by rw [kb 0 (by decide)]) (q3n 3 (by decide) 3) hM hM1 (by decide)) ms_X4_41 ⟨Nat.le_of_ble_eq_true rfl, Nat.le_of_ble_eq_true rfl⟩ ⟨Nat.le_of_ble_eq_true rfl, hs4⟩ rfl rfl (Nat.le_of_ble_eq_true rfl) dX4_init__66 (fun H locs hW hS hZ => ?_)
  replace hZ : H.size = b + (n + 4) := hZ
  replace kw := (zal_n1 _ (1, M, zNo) (ow 3)).trans kw
  replace k29' := (zal_n1 _ (1, M, zNo) (o29 3)).trans k29'
  replace f29 := fun j => (zal_n3 _ j (1, M, zNo) (o29 3)).trans (f29 j)
  replace ka := fun j hj => (zal_n _ (1, M, zNo) (o30 j hj 3)).trans (ka j hj)
  replace kb := fun j hj => (zal_n _ (1, M, zNo) (o33 j hj 3)).trans (kb j hj)
  rw [eqa 33 (q3w 3 (by decide)) (q3n 3 (by decide) 0)] at hW
  replace u29 := fun j => (congrFun (zst_n (f := u 33) (o29 3)) j).trans (u29 j)
  replace eqa := fun r hr (hrn : r < n) => (zst_n (f := u 33) (orr r hrn 3)).trans (eqa r hr hrn)
  refine z_putFr C0 hin0 hW hS hZ fl_X4_25 ⟨_, _, _, rfl, rfl⟩ kw rfl rfl rfl dX4_init__69 (fun H locs hW hS hZ => ?_)
  replace kw := (zgs_1 _ w 4 (n + 3) w).trans kw
  replace k29' := (zgs_1 _ w 4 (n + 3) 29).trans k29'
  replace f29 := fun j => (zgs_r (r' := 29) _ 4 (n + 3) j o29w).trans (f29 j)
  replace ka := fun j hj => (zgs_o (r' := 30 + j) 4 (n + 3) (o30w j hj)).trans (ka j hj)
  replace kb := fun j hj => (zgs_o (r' := 33 + j) 4 (n + 3) (o33w j hj)).trans (kb j hj)
  refine lv_aload_n hx hb dX4_init__72 rfl (lv_at hl 0 rfl) ?_
  refine lv_aload_n hx hb dX4_init__73 rfl (lv_at hl 1 rfl) ?_
  refine z_getr (o := 34) C0 hW fl_X4_53 k29' rfl ((f29 6).trans rfl) dX4_init__74 ?_
  refine lv_aload_n hx hb dX4_init__77 rfl (lv_at hl 1 rfl) ?_
  refine z_geti C0 hW fl_X4_50 k29' rfl dX4_init__78 ?_
  rw [show (zst (zst (zst (zst (z_up u w 0 (u 29 8)) n (u 30)) (n + 1) (u 31)) (n + 2) (u 32)) (n + 3) (u 33)) 29 9 = u 29 9 from u29 9]
  refine z_csN (v := some (.ref (b + (n + 4)))) (As := [.ref (b + 34), .int (u 29 9)]) (rest := [.ref (b + w)]) C0 hK2 hml hl.1 hW hS hZ hA (c_J7_copyOf l D A b _ _ (n + 4) 34 400 M (u 29 9) (by rw [kb 1 (by decide)]) (by rw [kb 1 (by decide)]) (q3n 4 (by decide) 4) hM hM1 (by decide)) ms_X4_41 ⟨Nat.le_of_ble_eq_true rfl, Nat.le_of_ble_eq_true rfl⟩ ⟨Nat.le_of_ble_eq_true rfl, hs5⟩ rfl rfl (Nat.le_of_ble_eq_true rfl) dX4_init__81 (fun H locs hW hS hZ => ?_)
  replace hZ : H.size = b + (n + 5) := hZ
  replace kw := (zal_n1 _ (1, M, zNo) (ow 4)).trans kw
  replace k29' := (zal_n1 _ (1, M, zNo) (o29 4)).trans k29'
  replace f29 := fun j => (zal_n3 _ j (1, M, zNo) (o29 4)).trans (f29 j)
  replace ka := fun j hj => (zal_n _ (1, M, zNo) (o30 j hj 4)).trans (ka j hj)
  replace kb := fun j hj => (zal_n _ (1, M, zNo) (o33 j hj 4)).trans (kb j hj)
  rw [eqa 34 (q3w 4 (by decide)) (q3n 4 (by decide) 0)] at hW
  replace u29 := fun j => (congrFun (zst_n (f := u 34) (o29 4)) j).trans (u29 j)
  replace eqa := fun r hr (hrn : r < n) => (zst_n (f := u 34) (orr r hrn 4)).trans (eqa r hr hrn)
  refine z_putFr C0 hin0 hW hS hZ fl_X4_28 ⟨_, _, _, rfl, rfl⟩ kw rfl rfl rfl dX4_init__84 (fun H locs hW hS hZ => ?_)
  replace kw := (zgs_1 _ w 5 (n + 4) w).trans kw
  replace k29' := (zgs_1 _ w 5 (n + 4) 29).trans k29'
  replace f29 := fun j => (zgs_r (r' := 29) _ 5 (n + 4) j o29w).trans (f29 j)
  replace ka := fun j hj => (zgs_o (r' := 30 + j) 5 (n + 4) (o30w j hj)).trans (ka j hj)
  replace kb := fun j hj => (zgs_o (r' := 33 + j) 5 (n + 4) (o33w j hj)).trans (kb j hj)
  refine lv_aload_n hx hb dX4_init__87 rfl (lv_at hl 0 rfl) ?_
  refine lv_aload_n hx hb dX4_init__88 rfl (lv_at hl 1 rfl) ?_
  refine z_getr (o := 35) C0 hW fl_X4_54 k29' rfl ((f29 7).trans rfl) dX4_init__89 ?_
  refine lv_aload_n hx hb dX4_init__92 rfl (lv_at hl 1 rfl) ?_
  refine z_geti C0 hW fl_X4_50 k29' rfl dX4_init__93 ?_
  rw [show (zst (zst (zst (zst (zst (z_up u w 0 (u 29 8)) n (u 30)) (n + 1) (u 31)) (n + 2) (u 32)) (n + 3) (u 33)) (n + 4) (u 34)) 29 9 = u 29 9 from u29 9]
  refine z_csN (v := some (.ref (b + (n + 5)))) (As := [.ref (b + 35), .int (u 29 9)]) (rest := [.ref (b + w)]) C0 hK2 hml hl.1 hW hS hZ hA (c_J7_copyOf l D A b _ _ (n + 5) 35 400 M (u 29 9) (by rw [kb 2 (by decide)]) (by rw [kb 2 (by decide)]) (q3n 5 (by decide) 5) hM hM1 (by decide)) ms_X4_41 ⟨Nat.le_of_ble_eq_true rfl, Nat.le_of_ble_eq_true rfl⟩ ⟨Nat.le_of_ble_eq_true rfl, hs6⟩ rfl rfl (Nat.le_of_ble_eq_true rfl) dX4_init__96 (fun H locs hW hS hZ => ?_)
  replace hZ : H.size = b + (n + 6) := hZ
  replace kw := (zal_n1 _ (1, M, zNo) (ow 5)).trans kw
  replace k29' := (zal_n1 _ (1, M, zNo) (o29 5)).trans k29'
  replace f29 := fun j => (zal_n3 _ j (1, M, zNo) (o29 5)).trans (f29 j)
  replace ka := fun j hj => (zal_n _ (1, M, zNo) (o30 j hj 5)).trans (ka j hj)
  replace kb := fun j hj => (zal_n _ (1, M, zNo) (o33 j hj 5)).trans (kb j hj)
  rw [eqa 35 (q3w 5 (by decide)) (q3n 5 (by decide) 0)] at hW
  replace u29 := fun j => (congrFun (zst_n (f := u 35) (o29 5)) j).trans (u29 j)
  replace eqa := fun r hr (hrn : r < n) => (zst_n (f := u 35) (orr r hrn 5)).trans (eqa r hr hrn)
  refine z_putFr C0 hin0 hW hS hZ fl_X4_31 ⟨_, _, _, rfl, rfl⟩ kw rfl rfl rfl dX4_init__99 (fun H locs hW hS hZ => ?_)
  replace kw := (zgs_1 _ w 6 (n + 5) w).trans kw
  replace k29' := (zgs_1 _ w 6 (n + 5) 29).trans k29'
  replace f29 := fun j => (zgs_r (r' := 29) _ 6 (n + 5) j o29w).trans (f29 j)
  replace ka := fun j hj => (zgs_o (r' := 30 + j) 6 (n + 5) (o30w j hj)).trans (ka j hj)
  replace kb := fun j hj => (zgs_o (r' := 33 + j) 6 (n + 5) (o33w j hj)).trans (kb j hj)
  refine lv_aload_n hx hb dX4_init__102 rfl (lv_at hl 0 rfl) ?_
  refine lv_aload_n hx hb dX4_init__103 rfl (lv_at hl 1 rfl) ?_
  refine z_geti C0 hW fl_X4_50 k29' rfl dX4_init__104 ?_
  rw [show (zst (zst (zst (zst (zst (zst (z_up u w 0 (u 29 8)) n (u 30)) (n + 1) (u 31)) (n + 2) (u 32)) (n + 3) (u 33)) (n + 4) (u 34)) (n + 5) (u 35)) 29 9 = u 29 9 from u29 9]
  refine z_newI (N := M) C0 hW hS hA hZ w_ai ⟨hM.1, hM.2, Nat.le_trans hM1 (by decide)⟩ ⟨Nat.le_of_ble_eq_true rfl, hs7⟩ dX4_init__107 (fun H hW hS hZ => ?_)
  replace kw := (zal_n1 _ (1, M, zNo) (ow 6)).trans kw
  refine z_putFr C0 hin0 hW hS hZ fl_X4_34 ⟨_, _, _, rfl, rfl⟩ kw rfl rfl rfl dX4_init__109 (fun H locs hW hS hZ => ?_)
  refine W.widen (k := 7) (n := 3 * N + 4 * M) (Nat.le_of_ble_eq_true rfl) hs7 ?_
  exact z_vretN C0 hr hlk hW hS hZ dX4_init__112
