/-! MACHINE, 5: the small methods (printed by lawgen.py) -/
theorem c_L_fair (l : Launch) (hst : l.stackTraces = false) (D : zD) (A1 : Nat → Prop) (b ob : Nat) (dJ : ClassId) (G : zG) (q : zq) (hT : zTop G q) (u : zU) {o : String ⊕ Int32} {q' : zq} {u' : zU} (h : f_X10_fair q u = some (o, q', u')) {x t : Int32} (hA : ANS [("java/lang/IllegalArgumentException", 1), ("java/lang/UnsupportedOperationException", 2)] o x t) {Φ : zG → zq → zU → Prop} (hΦ : Φ G q' u') : wM l D A1 b ob dJ yL_fair cL_fair 3 [(0, 8, 11, 13), (0, 8, 14, 15)] [.ref (b + 0), .ref ob] G q u t (if t = 0 then some x else none) Φ := by
  refine w_enter (by decide) (Nat.le_of_ble_eq_true rfl) ?_
  intro p e s m below meth c ls C hW hO hl
  have hl : lv_has ls 3 [(0, .ref (b + 0)), (1, .ref ob)] := hl
  have hx := C.1.1
  have hb := C.1.2.1
  refine lv_aload_n hx hb dL_fair_0 rfl (lv_at hl 1 rfl) ?_
  refine lv_iconst (v := (0 : Int32)) hx hb dL_fair_1 (by decide) ?_
  refine lv_aload_n hx hb dL_fair_2 rfl (lv_at hl 0 rfl) ?_
  cases o with
  | inr v =>
    obtain ⟨rfl, rfl⟩ := hA
    refine w_cMT (As := []) (v := v) C hT hW hO hl.1 (c_X10_fair l D A1 b G q hT u h) mv_L_7 ⟨Nat.le_of_ble_eq_true rfl, Nat.le_of_ble_eq_true rfl⟩ rfl rfl dL_fair_3 hΦ fun H1 locs1 h1 h2 h3 => ?_
    exact w_ok C h3 h1 h2 rfl (fun w hw => by rw [if_pos rfl] at hw; exact (Option.some.inj hw).symm) (Nat.zero_le _) (Nat.zero_le _) dL_fair_6 dL_fair_7 dL_fair_8 rfl dL_fair_17 dL_fair_18
  | inl E =>
    have hA : (E, t) ∈ [("java/lang/IllegalArgumentException", 1), ("java/lang/UnsupportedOperationException", 2)] := hA
    rcases List.mem_cons.mp hA with hA1 | hA1
    · cases hA1
      refine w_cTX (As := []) C hT hW hO hl.1 (t_X10_fair l D A1 b G q hT hst u h) mv_L_7 ⟨Nat.le_of_ble_eq_true rfl, Nat.le_of_ble_eq_true rfl⟩ rfl rfl dL_fair_3 hΦ fun ce q9 H1 locs1 h1 h2 h3 g1 g2 g3 => ?_
      refine w_catch1 C (by decide) w_cl_L_13 (by decide) (by decide) g1 g2 g3 ?_
      refine lv_astore_n hx hb dL_fair_11 rfl hl (by decide) rfl (fun ls hl => ?_)
      exact w_no C h3 h1 h2 (if_neg (by decide)) (by decide) (by decide) (by decide) dL_fair_12 dL_fair_13
    · cases List.mem_singleton.mp hA1
      refine w_cTX (As := []) C hT hW hO hl.1 (t_X10_fair l D A1 b G q hT hst u h) mv_L_7 ⟨Nat.le_of_ble_eq_true rfl, Nat.le_of_ble_eq_true rfl⟩ rfl rfl dL_fair_3 hΦ fun ce q9 H1 locs1 h1 h2 h3 g1 g2 g3 => ?_
      refine w_catch2 (N1 := "java/lang/IllegalArgumentException") C (by decide) (by decide) w_cl_L_13 w_cl_L_15 (by decide) (by decide) (by decide) (by decide) g1 g2 g3 ?_
      refine lv_astore_n hx hb dL_fair_14 rfl hl (by decide) rfl (fun ls hl => ?_)
      exact w_no C h3 h1 h2 (if_neg (by decide)) (by decide) (by decide) (by decide) dL_fair_15 dL_fair_16
theorem c_L_rider (l : Launch) (hst : l.stackTraces = false) (D : zD) (A1 : Nat → Prop) (b ob : Nat) (dJ : ClassId) (G : zG) (q : zq) (hT : zTop G q) (a1 : Int32) (a2 : Int32) (u : zU) {o : String ⊕ Int32} {q' : zq} {u' : zU} (h : f_X10_rider q a1 a2 u = some (o, q', u')) {x t : Int32} (hA : ANS [("java/lang/IndexOutOfBoundsException", 1), ("java/util/NoSuchElementException", 2)] o x t) {Φ : zG → zq → zU → Prop} (hΦ : Φ G q' u') : wM l D A1 b ob dJ yL_rider cL_rider 5 [(0, 10, 13, 24), (0, 10, 17, 26)] [.ref (b + 0), .int a1, .int a2, .ref ob] G q u t (if t = 0 then some x else none) Φ := by
  refine w_enter (by decide) (Nat.le_of_ble_eq_true rfl) ?_
  intro p e s m below meth c ls C hW hO hl
  have hl : lv_has ls 5 [(0, .ref (b + 0)), (1, .int a1), (2, .int a2), (3, .ref ob)] := hl
  have hx := C.1.1
  have hb := C.1.2.1
  refine lv_aload_n hx hb dL_rider_0 rfl (lv_at hl 3 rfl) ?_
  refine lv_iconst (v := (0 : Int32)) hx hb dL_rider_1 (by decide) ?_
  refine lv_aload_n hx hb dL_rider_2 rfl (lv_at hl 0 rfl) ?_
  refine lv_iload_n hx hb dL_rider_3 rfl (lv_at hl 1 rfl) ?_
  refine lv_iload_n hx hb dL_rider_4 rfl (lv_at hl 2 rfl) ?_
  cases o with
  | inr v =>
    obtain ⟨rfl, rfl⟩ := hA
    refine w_cMT (As := [.int a1, .int a2]) (v := v) C hT hW hO hl.1 (c_X10_rider l D A1 b G q hT a1 a2 u h) mv_L_20 ⟨Nat.le_of_ble_eq_true rfl, Nat.le_of_ble_eq_true rfl⟩ rfl rfl dL_rider_5 hΦ fun H1 locs1 h1 h2 h3 => ?_
    exact w_ok C h3 h1 h2 rfl (fun w hw => by rw [if_pos rfl] at hw; exact (Option.some.inj hw).symm) (Nat.zero_le _) (Nat.zero_le _) dL_rider_8 dL_rider_9 dL_rider_10 rfl dL_rider_21 dL_rider_22
  | inl E =>
    have hA : (E, t) ∈ [("java/lang/IndexOutOfBoundsException", 1), ("java/util/NoSuchElementException", 2)] := hA
    rcases List.mem_cons.mp hA with hA1 | hA1
    · cases hA1
      refine w_cTX (As := [.int a1, .int a2]) C hT hW hO hl.1 (t_X10_rider l D A1 b G q hT hst a1 a2 u h) mv_L_20 ⟨Nat.le_of_ble_eq_true rfl, Nat.le_of_ble_eq_true rfl⟩ rfl rfl dL_rider_5 hΦ fun ce q9 H1 locs1 h1 h2 h3 g1 g2 g3 => ?_
      refine w_catch1 C (by decide) w_cl_L_24 (by decide) (by decide) g1 g2 g3 ?_
      refine lv_astore hx hb dL_rider_13 hl (by decide) rfl (fun ls hl => ?_)
      exact w_no C h3 h1 h2 (if_neg (by decide)) (by decide) (by decide) (by decide) dL_rider_15 dL_rider_16
    · cases List.mem_singleton.mp hA1
      refine w_cTX (As := [.int a1, .int a2]) C hT hW hO hl.1 (t_X10_rider l D A1 b G q hT hst a1 a2 u h) mv_L_20 ⟨Nat.le_of_ble_eq_true rfl, Nat.le_of_ble_eq_true rfl⟩ rfl rfl dL_rider_5 hΦ fun ce q9 H1 locs1 h1 h2 h3 g1 g2 g3 => ?_
      refine w_catch2 (N1 := "java/lang/IndexOutOfBoundsException") C (by decide) (by decide) w_cl_L_24 w_cl_L_26 (by decide) (by decide) (by decide) (by decide) g1 g2 g3 ?_
      refine lv_astore hx hb dL_rider_17 hl (by decide) rfl (fun ls hl => ?_)
      exact w_no C h3 h1 h2 (if_neg (by decide)) (by decide) (by decide) (by decide) dL_rider_19 dL_rider_20
theorem c_L_cradle (l : Launch) (hst : l.stackTraces = false) (D : zD) (A1 : Nat → Prop) (b ob : Nat) (dJ : ClassId) (G : zG) (q : zq) (hT : zTop G q) (a1 : Int32) (a2 : Int32) (u : zU) {o : String ⊕ Int32} {q' : zq} {u' : zU} (h : f_X10_cradle q a1 a2 u = some (o, q', u')) {x t : Int32} (hA : ANS [("java/lang/IndexOutOfBoundsException", 1), ("java/util/NoSuchElementException", 2)] o x t) {Φ : zG → zq → zU → Prop} (hΦ : Φ G q' u') : wM l D A1 b ob dJ yL_cradle cL_cradle 5 [(0, 10, 13, 24), (0, 10, 17, 26)] [.ref (b + 0), .int a1, .int a2, .ref ob] G q u t (if t = 0 then some x else none) Φ := by
  refine w_enter (by decide) (Nat.le_of_ble_eq_true rfl) ?_
  intro p e s m below meth c ls C hW hO hl
  have hl : lv_has ls 5 [(0, .ref (b + 0)), (1, .int a1), (2, .int a2), (3, .ref ob)] := hl
  have hx := C.1.1
  have hb := C.1.2.1
  refine lv_aload_n hx hb dL_cradle_0 rfl (lv_at hl 3 rfl) ?_
  refine lv_iconst (v := (0 : Int32)) hx hb dL_cradle_1 (by decide) ?_
  refine lv_aload_n hx hb dL_cradle_2 rfl (lv_at hl 0 rfl) ?_
  refine lv_iload_n hx hb dL_cradle_3 rfl (lv_at hl 1 rfl) ?_
  refine lv_iload_n hx hb dL_cradle_4 rfl (lv_at hl 2 rfl) ?_
  cases o with
  | inr v =>
    obtain ⟨rfl, rfl⟩ := hA
    refine w_cMT (As := [.int a1, .int a2]) (v := v) C hT hW hO hl.1 (c_X10_cradle l D A1 b G q hT a1 a2 u h) mv_L_28 ⟨Nat.le_of_ble_eq_true rfl, Nat.le_of_ble_eq_true rfl⟩ rfl rfl dL_cradle_5 hΦ fun H1 locs1 h1 h2 h3 => ?_
    exact w_ok C h3 h1 h2 rfl (fun w hw => by rw [if_pos rfl] at hw; exact (Option.some.inj hw).symm) (Nat.zero_le _) (Nat.zero_le _) dL_cradle_8 dL_cradle_9 dL_cradle_10 rfl dL_cradle_21 dL_cradle_22
  | inl E =>
    have hA : (E, t) ∈ [("java/lang/IndexOutOfBoundsException", 1), ("java/util/NoSuchElementException", 2)] := hA
    rcases List.mem_cons.mp hA with hA1 | hA1
    · cases hA1
      refine w_cTX (As := [.int a1, .int a2]) C hT hW hO hl.1 (t_X10_cradle l D A1 b G q hT hst a1 a2 u h) mv_L_28 ⟨Nat.le_of_ble_eq_true rfl, Nat.le_of_ble_eq_true rfl⟩ rfl rfl dL_cradle_5 hΦ fun ce q9 H1 locs1 h1 h2 h3 g1 g2 g3 => ?_
      refine w_catch1 C (by decide) w_cl_L_24 (by decide) (by decide) g1 g2 g3 ?_
      refine lv_astore hx hb dL_cradle_13 hl (by decide) rfl (fun ls hl => ?_)
      exact w_no C h3 h1 h2 (if_neg (by decide)) (by decide) (by decide) (by decide) dL_cradle_15 dL_cradle_16
    · cases List.mem_singleton.mp hA1
      refine w_cTX (As := [.int a1, .int a2]) C hT hW hO hl.1 (t_X10_cradle l D A1 b G q hT hst a1 a2 u h) mv_L_28 ⟨Nat.le_of_ble_eq_true rfl, Nat.le_of_ble_eq_true rfl⟩ rfl rfl dL_cradle_5 hΦ fun ce q9 H1 locs1 h1 h2 h3 g1 g2 g3 => ?_
      refine w_catch2 (N1 := "java/lang/IndexOutOfBoundsException") C (by decide) (by decide) w_cl_L_24 w_cl_L_26 (by decide) (by decide) (by decide) (by decide) g1 g2 g3 ?_
      refine lv_astore hx hb dL_cradle_17 hl (by decide) rfl (fun ls hl => ?_)
      exact w_no C h3 h1 h2 (if_neg (by decide)) (by decide) (by decide) (by decide) dL_cradle_19 dL_cradle_20
theorem c_L_party (l : Launch) (hst : l.stackTraces = false) (D : zD) (A1 : Nat → Prop) (b ob : Nat) (dJ : ClassId) (G : zG) (q : zq) (hT : zTop G q) (a1 : Int32) (a2 : Int32) (u : zU) {o : String ⊕ Int32} {q' : zq} {u' : zU} (h : f_X10_party q a1 a2 u = some (o, q', u')) {x t : Int32} (hA : ANS [("java/lang/IndexOutOfBoundsException", 1), ("java/util/NoSuchElementException", 2)] o x t) {Φ : zG → zq → zU → Prop} (hΦ : Φ G q' u') : wM l D A1 b ob dJ yL_party cL_party 5 [(0, 10, 13, 24), (0, 10, 17, 26)] [.ref (b + 0), .int a1, .int a2, .ref ob] G q u t (if t = 0 then some x else none) Φ := by
  refine w_enter (by decide) (Nat.le_of_ble_eq_true rfl) ?_
  intro p e s m below meth c ls C hW hO hl
  have hl : lv_has ls 5 [(0, .ref (b + 0)), (1, .int a1), (2, .int a2), (3, .ref ob)] := hl
  have hx := C.1.1
  have hb := C.1.2.1
  refine lv_aload_n hx hb dL_party_0 rfl (lv_at hl 3 rfl) ?_
  refine lv_iconst (v := (0 : Int32)) hx hb dL_party_1 (by decide) ?_
  refine lv_aload_n hx hb dL_party_2 rfl (lv_at hl 0 rfl) ?_
  refine lv_iload_n hx hb dL_party_3 rfl (lv_at hl 1 rfl) ?_
  refine lv_iload_n hx hb dL_party_4 rfl (lv_at hl 2 rfl) ?_
  cases o with
  | inr v =>
    obtain ⟨rfl, rfl⟩ := hA
    refine w_cMT (As := [.int a1, .int a2]) (v := v) C hT hW hO hl.1 (c_X10_party l D A1 b G q hT a1 a2 u h) mv_L_31 ⟨Nat.le_of_ble_eq_true rfl, Nat.le_of_ble_eq_true rfl⟩ rfl rfl dL_party_5 hΦ fun H1 locs1 h1 h2 h3 => ?_
    exact w_ok C h3 h1 h2 rfl (fun w hw => by rw [if_pos rfl] at hw; exact (Option.some.inj hw).symm) (Nat.zero_le _) (Nat.zero_le _) dL_party_8 dL_party_9 dL_party_10 rfl dL_party_21 dL_party_22
  | inl E =>
    have hA : (E, t) ∈ [("java/lang/IndexOutOfBoundsException", 1), ("java/util/NoSuchElementException", 2)] := hA
    rcases List.mem_cons.mp hA with hA1 | hA1
    · cases hA1
      refine w_cTX (As := [.int a1, .int a2]) C hT hW hO hl.1 (t_X10_party l D A1 b G q hT hst a1 a2 u h) mv_L_31 ⟨Nat.le_of_ble_eq_true rfl, Nat.le_of_ble_eq_true rfl⟩ rfl rfl dL_party_5 hΦ fun ce q9 H1 locs1 h1 h2 h3 g1 g2 g3 => ?_
      refine w_catch1 C (by decide) w_cl_L_24 (by decide) (by decide) g1 g2 g3 ?_
      refine lv_astore hx hb dL_party_13 hl (by decide) rfl (fun ls hl => ?_)
      exact w_no C h3 h1 h2 (if_neg (by decide)) (by decide) (by decide) (by decide) dL_party_15 dL_party_16
    · cases List.mem_singleton.mp hA1
      refine w_cTX (As := [.int a1, .int a2]) C hT hW hO hl.1 (t_X10_party l D A1 b G q hT hst a1 a2 u h) mv_L_31 ⟨Nat.le_of_ble_eq_true rfl, Nat.le_of_ble_eq_true rfl⟩ rfl rfl dL_party_5 hΦ fun ce q9 H1 locs1 h1 h2 h3 g1 g2 g3 => ?_
      refine w_catch2 (N1 := "java/lang/IndexOutOfBoundsException") C (by decide) (by decide) w_cl_L_24 w_cl_L_26 (by decide) (by decide) (by decide) (by decide) g1 g2 g3 ?_
      refine lv_astore hx hb dL_party_17 hl (by decide) rfl (fun ls hl => ?_)
      exact w_no C h3 h1 h2 (if_neg (by decide)) (by decide) (by decide) (by decide) dL_party_19 dL_party_20
theorem c_L_board (l : Launch) (hst : l.stackTraces = false) (D : zD) (A1 : Nat → Prop) (b ob : Nat) (dJ : ClassId) (G : zG) (q : zq) (hT : zTop G q) (a1 : Int32) (a2 : Int32) (u : zU) {o : String ⊕ Int32} {q' : zq} {u' : zU} (h : f_X10_board q a1 a2 u = some (o, q', u')) {x t : Int32} (hA : ANS [("java/lang/IndexOutOfBoundsException", 1), ("java/lang/IllegalStateException", 2)] o x t) {Φ : zG → zq → zU → Prop} (hΦ : Φ G q' u') : wM l D A1 b ob dJ yL_board cL_board 5 [(0, 10, 13, 24), (0, 10, 17, 37)] [.ref (b + 0), .int a1, .int a2, .ref ob] G q u t (if t = 0 then some x else none) Φ := by
  refine w_enter (by decide) (Nat.le_of_ble_eq_true rfl) ?_
  intro p e s m below meth c ls C hW hO hl
  have hl : lv_has ls 5 [(0, .ref (b + 0)), (1, .int a1), (2, .int a2), (3, .ref ob)] := hl
  have hx := C.1.1
  have hb := C.1.2.1
  refine lv_aload_n hx hb dL_board_0 rfl (lv_at hl 3 rfl) ?_
  refine lv_iconst (v := (0 : Int32)) hx hb dL_board_1 (by decide) ?_
  refine lv_aload_n hx hb dL_board_2 rfl (lv_at hl 0 rfl) ?_
  refine lv_iload_n hx hb dL_board_3 rfl (lv_at hl 1 rfl) ?_
  refine lv_iload_n hx hb dL_board_4 rfl (lv_at hl 2 rfl) ?_
  cases o with
  | inr v =>
    obtain ⟨rfl, rfl⟩ := hA
    refine w_cMT (As := [.int a1, .int a2]) (v := v) C hT hW hO hl.1 (c_X10_board l D A1 b G q hT a1 a2 u h) mv_L_34 ⟨Nat.le_of_ble_eq_true rfl, Nat.le_of_ble_eq_true rfl⟩ rfl rfl dL_board_5 hΦ fun H1 locs1 h1 h2 h3 => ?_
    exact w_ok C h3 h1 h2 rfl (fun w hw => by rw [if_pos rfl] at hw; exact (Option.some.inj hw).symm) (Nat.zero_le _) (Nat.zero_le _) dL_board_8 dL_board_9 dL_board_10 rfl dL_board_21 dL_board_22
  | inl E =>
    have hA : (E, t) ∈ [("java/lang/IndexOutOfBoundsException", 1), ("java/lang/IllegalStateException", 2)] := hA
    rcases List.mem_cons.mp hA with hA1 | hA1
    · cases hA1
      refine w_cTX (As := [.int a1, .int a2]) C hT hW hO hl.1 (t_X10_board l D A1 b G q hT hst a1 a2 u h) mv_L_34 ⟨Nat.le_of_ble_eq_true rfl, Nat.le_of_ble_eq_true rfl⟩ rfl rfl dL_board_5 hΦ fun ce q9 H1 locs1 h1 h2 h3 g1 g2 g3 => ?_
      refine w_catch1 C (by decide) w_cl_L_24 (by decide) (by decide) g1 g2 g3 ?_
      refine lv_astore hx hb dL_board_13 hl (by decide) rfl (fun ls hl => ?_)
      exact w_no C h3 h1 h2 (if_neg (by decide)) (by decide) (by decide) (by decide) dL_board_15 dL_board_16
    · cases List.mem_singleton.mp hA1
      refine w_cTX (As := [.int a1, .int a2]) C hT hW hO hl.1 (t_X10_board l D A1 b G q hT hst a1 a2 u h) mv_L_34 ⟨Nat.le_of_ble_eq_true rfl, Nat.le_of_ble_eq_true rfl⟩ rfl rfl dL_board_5 hΦ fun ce q9 H1 locs1 h1 h2 h3 g1 g2 g3 => ?_
      refine w_catch2 (N1 := "java/lang/IndexOutOfBoundsException") C (by decide) (by decide) w_cl_L_24 w_cl_L_37 (by decide) (by decide) (by decide) (by decide) g1 g2 g3 ?_
      refine lv_astore hx hb dL_board_17 hl (by decide) rfl (fun ls hl => ?_)
      exact w_no C h3 h1 h2 (if_neg (by decide)) (by decide) (by decide) (by decide) dL_board_19 dL_board_20
theorem c_L_move (l : Launch) (hst : l.stackTraces = false) (D : zD) (A1 : Nat → Prop) (b ob : Nat) (dJ : ClassId) (G : zG) (q : zq) (hT : zTop G q) (a1 : Int32) (a2 : Bool) (u : zU) {o : String ⊕ Int32} {q' : zq} {u' : zU} (h : f_X10_move q a1 a2 u = some (o, q', u')) {x t : Int32} (hA : ANS [("java/lang/IndexOutOfBoundsException", 1), ("java/lang/IllegalStateException", 2)] o x t) {Φ : zG → zq → zU → Prop} (hΦ : Φ G q' u') : wM l D A1 b ob dJ yL_move cL_move 5 [(0, 10, 13, 24), (0, 10, 17, 37)] [.ref (b + 0), .int a1, .int (bI a2), .ref ob] G q u t (if t = 0 then some x else none) Φ := by
  refine w_enter (by decide) (Nat.le_of_ble_eq_true rfl) ?_
  intro p e s m below meth c ls C hW hO hl
  have hl : lv_has ls 5 [(0, .ref (b + 0)), (1, .int a1), (2, .int (bI a2)), (3, .ref ob)] := hl
  have hx := C.1.1
  have hb := C.1.2.1
  refine lv_aload_n hx hb dL_move_0 rfl (lv_at hl 3 rfl) ?_
  refine lv_iconst (v := (0 : Int32)) hx hb dL_move_1 (by decide) ?_
  refine lv_aload_n hx hb dL_move_2 rfl (lv_at hl 0 rfl) ?_
  refine lv_iload_n hx hb dL_move_3 rfl (lv_at hl 1 rfl) ?_
  refine lv_iload_n hx hb dL_move_4 rfl (lv_at hl 2 rfl) ?_
  cases o with
  | inr v =>
    obtain ⟨rfl, rfl⟩ := hA
    refine w_cMT (As := [.int a1, .int (bI a2)]) (v := v) C hT hW hO hl.1 (c_X10_move l D A1 b G q hT a1 a2 u h) mv_L_39 ⟨Nat.le_of_ble_eq_true rfl, Nat.le_of_ble_eq_true rfl⟩ rfl rfl dL_move_5 hΦ fun H1 locs1 h1 h2 h3 => ?_
    exact w_ok C h3 h1 h2 rfl (fun w hw => by rw [if_pos rfl] at hw; exact (Option.some.inj hw).symm) (Nat.zero_le _) (Nat.zero_le _) dL_move_8 dL_move_9 dL_move_10 rfl dL_move_21 dL_move_22
  | inl E =>
    have hA : (E, t) ∈ [("java/lang/IndexOutOfBoundsException", 1), ("java/lang/IllegalStateException", 2)] := hA
    rcases List.mem_cons.mp hA with hA1 | hA1
    · cases hA1
      refine w_cTX (As := [.int a1, .int (bI a2)]) C hT hW hO hl.1 (t_X10_move l D A1 b G q hT hst a1 a2 u h) mv_L_39 ⟨Nat.le_of_ble_eq_true rfl, Nat.le_of_ble_eq_true rfl⟩ rfl rfl dL_move_5 hΦ fun ce q9 H1 locs1 h1 h2 h3 g1 g2 g3 => ?_
      refine w_catch1 C (by decide) w_cl_L_24 (by decide) (by decide) g1 g2 g3 ?_
      refine lv_astore hx hb dL_move_13 hl (by decide) rfl (fun ls hl => ?_)
      exact w_no C h3 h1 h2 (if_neg (by decide)) (by decide) (by decide) (by decide) dL_move_15 dL_move_16
    · cases List.mem_singleton.mp hA1
      refine w_cTX (As := [.int a1, .int (bI a2)]) C hT hW hO hl.1 (t_X10_move l D A1 b G q hT hst a1 a2 u h) mv_L_39 ⟨Nat.le_of_ble_eq_true rfl, Nat.le_of_ble_eq_true rfl⟩ rfl rfl dL_move_5 hΦ fun ce q9 H1 locs1 h1 h2 h3 g1 g2 g3 => ?_
      refine w_catch2 (N1 := "java/lang/IndexOutOfBoundsException") C (by decide) (by decide) w_cl_L_24 w_cl_L_37 (by decide) (by decide) (by decide) (by decide) g1 g2 g3 ?_
      refine lv_astore hx hb dL_move_17 hl (by decide) rfl (fun ls hl => ?_)
      exact w_no C h3 h1 h2 (if_neg (by decide)) (by decide) (by decide) (by decide) dL_move_19 dL_move_20
theorem c_L_off (l : Launch) (hst : l.stackTraces = false) (D : zD) (A1 : Nat → Prop) (b ob : Nat) (dJ : ClassId) (G : zG) (q : zq) (hT : zTop G q) (a1 : Int32) (u : zU) {o : String ⊕ Int32} {q' : zq} {u' : zU} (h : f_X10_off q a1 u = some (o, q', u')) {x t : Int32} (hA : ANS [("java/lang/IndexOutOfBoundsException", 1), ("java/lang/IllegalStateException", 2)] o x t) {Φ : zG → zq → zU → Prop} (hΦ : Φ G q' u') : wM l D A1 b ob dJ yL_off cL_off 4 [(0, 9, 12, 24), (0, 9, 15, 37)] [.ref (b + 0), .int a1, .ref ob] G q u t (if t = 0 then some x else none) Φ := by
  refine w_enter (by decide) (Nat.le_of_ble_eq_true rfl) ?_
  intro p e s m below meth c ls C hW hO hl
  have hl : lv_has ls 4 [(0, .ref (b + 0)), (1, .int a1), (2, .ref ob)] := hl
  have hx := C.1.1
  have hb := C.1.2.1
  refine lv_aload_n hx hb dL_off_0 rfl (lv_at hl 2 rfl) ?_
  refine lv_iconst (v := (0 : Int32)) hx hb dL_off_1 (by decide) ?_
  refine lv_aload_n hx hb dL_off_2 rfl (lv_at hl 0 rfl) ?_
  refine lv_iload_n hx hb dL_off_3 rfl (lv_at hl 1 rfl) ?_
  cases o with
  | inr v =>
    obtain ⟨rfl, rfl⟩ := hA
    refine w_cMT (As := [.int a1]) (v := v) C hT hW hO hl.1 (c_X10_off l D A1 b G q hT a1 u h) mv_L_43 ⟨Nat.le_of_ble_eq_true rfl, Nat.le_of_ble_eq_true rfl⟩ rfl rfl dL_off_4 hΦ fun H1 locs1 h1 h2 h3 => ?_
    exact w_ok C h3 h1 h2 rfl (fun w hw => by rw [if_pos rfl] at hw; exact (Option.some.inj hw).symm) (Nat.zero_le _) (Nat.zero_le _) dL_off_7 dL_off_8 dL_off_9 rfl dL_off_18 dL_off_19
  | inl E =>
    have hA : (E, t) ∈ [("java/lang/IndexOutOfBoundsException", 1), ("java/lang/IllegalStateException", 2)] := hA
    rcases List.mem_cons.mp hA with hA1 | hA1
    · cases hA1
      refine w_cTX (As := [.int a1]) C hT hW hO hl.1 (t_X10_off l D A1 b G q hT hst a1 u h) mv_L_43 ⟨Nat.le_of_ble_eq_true rfl, Nat.le_of_ble_eq_true rfl⟩ rfl rfl dL_off_4 hΦ fun ce q9 H1 locs1 h1 h2 h3 g1 g2 g3 => ?_
      refine w_catch1 C (by decide) w_cl_L_24 (by decide) (by decide) g1 g2 g3 ?_
      refine lv_astore_n hx hb dL_off_12 rfl hl (by decide) rfl (fun ls hl => ?_)
      exact w_no C h3 h1 h2 (if_neg (by decide)) (by decide) (by decide) (by decide) dL_off_13 dL_off_14
    · cases List.mem_singleton.mp hA1
      refine w_cTX (As := [.int a1]) C hT hW hO hl.1 (t_X10_off l D A1 b G q hT hst a1 u h) mv_L_43 ⟨Nat.le_of_ble_eq_true rfl, Nat.le_of_ble_eq_true rfl⟩ rfl rfl dL_off_4 hΦ fun ce q9 H1 locs1 h1 h2 h3 g1 g2 g3 => ?_
      refine w_catch2 (N1 := "java/lang/IndexOutOfBoundsException") C (by decide) (by decide) w_cl_L_24 w_cl_L_37 (by decide) (by decide) (by decide) (by decide) g1 g2 g3 ?_
      refine lv_astore_n hx hb dL_off_15 rfl hl (by decide) rfl (fun ls hl => ?_)
      exact w_no C h3 h1 h2 (if_neg (by decide)) (by decide) (by decide) (by decide) dL_off_16 dL_off_17
theorem c_L_bolt (l : Launch) (hst : l.stackTraces = false) (D : zD) (A1 : Nat → Prop) (b ob : Nat) (dJ : ClassId) (G : zG) (q : zq) (hT : zTop G q) (a1 : Int32) (u : zU) {o : String ⊕ Int32} {q' : zq} {u' : zU} (h : f_X10_bolt q a1 u = some (o, q', u')) {x t : Int32} (hA : ANS [("java/lang/IndexOutOfBoundsException", 1), ("java/lang/IllegalStateException", 2)] o x t) {Φ : zG → zq → zU → Prop} (hΦ : Φ G q' u') : wM l D A1 b ob dJ yL_bolt cL_bolt 4 [(0, 9, 12, 24), (0, 9, 15, 37)] [.ref (b + 0), .int a1, .ref ob] G q u t (if t = 0 then some x else none) Φ := by
  refine w_enter (by decide) (Nat.le_of_ble_eq_true rfl) ?_
  intro p e s m below meth c ls C hW hO hl
  have hl : lv_has ls 4 [(0, .ref (b + 0)), (1, .int a1), (2, .ref ob)] := hl
  have hx := C.1.1
  have hb := C.1.2.1
  refine lv_aload_n hx hb dL_bolt_0 rfl (lv_at hl 2 rfl) ?_
  refine lv_iconst (v := (0 : Int32)) hx hb dL_bolt_1 (by decide) ?_
  refine lv_aload_n hx hb dL_bolt_2 rfl (lv_at hl 0 rfl) ?_
  refine lv_iload_n hx hb dL_bolt_3 rfl (lv_at hl 1 rfl) ?_
  cases o with
  | inr v =>
    obtain ⟨rfl, rfl⟩ := hA
    refine w_cMT (As := [.int a1]) (v := v) C hT hW hO hl.1 (c_X10_bolt l D A1 b G q hT a1 u h) mv_L_47 ⟨Nat.le_of_ble_eq_true rfl, Nat.le_of_ble_eq_true rfl⟩ rfl rfl dL_bolt_4 hΦ fun H1 locs1 h1 h2 h3 => ?_
    exact w_ok C h3 h1 h2 rfl (fun w hw => by rw [if_pos rfl] at hw; exact (Option.some.inj hw).symm) (Nat.zero_le _) (Nat.zero_le _) dL_bolt_7 dL_bolt_8 dL_bolt_9 rfl dL_bolt_18 dL_bolt_19
  | inl E =>
    have hA : (E, t) ∈ [("java/lang/IndexOutOfBoundsException", 1), ("java/lang/IllegalStateException", 2)] := hA
    rcases List.mem_cons.mp hA with hA1 | hA1
    · cases hA1
      refine w_cTX (As := [.int a1]) C hT hW hO hl.1 (t_X10_bolt l D A1 b G q hT hst a1 u h) mv_L_47 ⟨Nat.le_of_ble_eq_true rfl, Nat.le_of_ble_eq_true rfl⟩ rfl rfl dL_bolt_4 hΦ fun ce q9 H1 locs1 h1 h2 h3 g1 g2 g3 => ?_
      refine w_catch1 C (by decide) w_cl_L_24 (by decide) (by decide) g1 g2 g3 ?_
      refine lv_astore_n hx hb dL_bolt_12 rfl hl (by decide) rfl (fun ls hl => ?_)
      exact w_no C h3 h1 h2 (if_neg (by decide)) (by decide) (by decide) (by decide) dL_bolt_13 dL_bolt_14
    · cases List.mem_singleton.mp hA1
      refine w_cTX (As := [.int a1]) C hT hW hO hl.1 (t_X10_bolt l D A1 b G q hT hst a1 u h) mv_L_47 ⟨Nat.le_of_ble_eq_true rfl, Nat.le_of_ble_eq_true rfl⟩ rfl rfl dL_bolt_4 hΦ fun ce q9 H1 locs1 h1 h2 h3 g1 g2 g3 => ?_
      refine w_catch2 (N1 := "java/lang/IndexOutOfBoundsException") C (by decide) (by decide) w_cl_L_24 w_cl_L_37 (by decide) (by decide) (by decide) (by decide) g1 g2 g3 ?_
      refine lv_astore_n hx hb dL_bolt_15 rfl hl (by decide) rfl (fun ls hl => ?_)
      exact w_no C h3 h1 h2 (if_neg (by decide)) (by decide) (by decide) (by decide) dL_bolt_16 dL_bolt_17
theorem c_L_dole (l : Launch) (hst : l.stackTraces = false) (D : zD) (A1 : Nat → Prop) (b ob : Nat) (dJ : ClassId) (G : zG) (q : zq) (hT : zTop G q) (a1 : Int32) (a2 : Int32) (u : zU) {o : String ⊕ Int32} {q' : zq} {u' : zU} (h : f_X10_dole q a1 a2 u = some (o, q', u')) {x t : Int32} (hA : ANS [("java/lang/IndexOutOfBoundsException", 1), ("java/lang/IllegalArgumentException", 2)] o x t) {Φ : zG → zq → zU → Prop} (hΦ : Φ G q' u') : wM l D A1 b ob dJ yL_dole cL_dole 5 [(0, 10, 13, 24), (0, 10, 17, 13)] [.ref (b + 0), .int a1, .int a2, .ref ob] G q u t (if t = 0 then some x else none) Φ := by
  refine w_enter (by decide) (Nat.le_of_ble_eq_true rfl) ?_
  intro p e s m below meth c ls C hW hO hl
  have hl : lv_has ls 5 [(0, .ref (b + 0)), (1, .int a1), (2, .int a2), (3, .ref ob)] := hl
  have hx := C.1.1
  have hb := C.1.2.1
  refine lv_aload_n hx hb dL_dole_0 rfl (lv_at hl 3 rfl) ?_
  refine lv_iconst (v := (0 : Int32)) hx hb dL_dole_1 (by decide) ?_
  refine lv_aload_n hx hb dL_dole_2 rfl (lv_at hl 0 rfl) ?_
  refine lv_iload_n hx hb dL_dole_3 rfl (lv_at hl 1 rfl) ?_
  refine lv_iload_n hx hb dL_dole_4 rfl (lv_at hl 2 rfl) ?_
  cases o with
  | inr v =>
    obtain ⟨rfl, rfl⟩ := hA
    refine w_cMT (As := [.int a1, .int a2]) (v := v) C hT hW hO hl.1 (c_X10_dole l D A1 b G q hT a1 a2 u h) mv_L_50 ⟨Nat.le_of_ble_eq_true rfl, Nat.le_of_ble_eq_true rfl⟩ rfl rfl dL_dole_5 hΦ fun H1 locs1 h1 h2 h3 => ?_
    exact w_ok C h3 h1 h2 rfl (fun w hw => by rw [if_pos rfl] at hw; exact (Option.some.inj hw).symm) (Nat.zero_le _) (Nat.zero_le _) dL_dole_8 dL_dole_9 dL_dole_10 rfl dL_dole_21 dL_dole_22
  | inl E =>
    have hA : (E, t) ∈ [("java/lang/IndexOutOfBoundsException", 1), ("java/lang/IllegalArgumentException", 2)] := hA
    rcases List.mem_cons.mp hA with hA1 | hA1
    · cases hA1
      refine w_cTX (As := [.int a1, .int a2]) C hT hW hO hl.1 (t_X10_dole l D A1 b G q hT hst a1 a2 u h) mv_L_50 ⟨Nat.le_of_ble_eq_true rfl, Nat.le_of_ble_eq_true rfl⟩ rfl rfl dL_dole_5 hΦ fun ce q9 H1 locs1 h1 h2 h3 g1 g2 g3 => ?_
      refine w_catch1 C (by decide) w_cl_L_24 (by decide) (by decide) g1 g2 g3 ?_
      refine lv_astore hx hb dL_dole_13 hl (by decide) rfl (fun ls hl => ?_)
      exact w_no C h3 h1 h2 (if_neg (by decide)) (by decide) (by decide) (by decide) dL_dole_15 dL_dole_16
    · cases List.mem_singleton.mp hA1
      refine w_cTX (As := [.int a1, .int a2]) C hT hW hO hl.1 (t_X10_dole l D A1 b G q hT hst a1 a2 u h) mv_L_50 ⟨Nat.le_of_ble_eq_true rfl, Nat.le_of_ble_eq_true rfl⟩ rfl rfl dL_dole_5 hΦ fun ce q9 H1 locs1 h1 h2 h3 g1 g2 g3 => ?_
      refine w_catch2 (N1 := "java/lang/IndexOutOfBoundsException") C (by decide) (by decide) w_cl_L_24 w_cl_L_13 (by decide) (by decide) (by decide) (by decide) g1 g2 g3 ?_
      refine lv_astore hx hb dL_dole_17 hl (by decide) rfl (fun ls hl => ?_)
      exact w_no C h3 h1 h2 (if_neg (by decide)) (by decide) (by decide) (by decide) dL_dole_19 dL_dole_20
theorem c_L_fare (l : Launch) (hst : l.stackTraces = false) (D : zD) (A1 : Nat → Prop) (b ob : Nat) (dJ : ClassId) (G : zG) (q : zq) (hT : zTop G q) (a1 : Int32) (u : zU) {o : String ⊕ Int32} {q' : zq} {u' : zU} (h : f_X10_fare q a1 u = some (o, q', u')) {x t : Int32} (hA : ANS [("java/lang/IllegalArgumentException", 1)] o x t) {Φ : zG → zq → zU → Prop} (hΦ : Φ G q' u') : wM l D A1 b ob dJ yL_fare cL_fare 4 [(0, 9, 12, 13)] [.ref (b + 0), .int a1, .ref ob] G q u t (if t = 0 then some x else none) Φ := by
  refine w_enter (by decide) (Nat.le_of_ble_eq_true rfl) ?_
  intro p e s m below meth c ls C hW hO hl
  have hl : lv_has ls 4 [(0, .ref (b + 0)), (1, .int a1), (2, .ref ob)] := hl
  have hx := C.1.1
  have hb := C.1.2.1
  refine lv_aload_n hx hb dL_fare_0 rfl (lv_at hl 2 rfl) ?_
  refine lv_iconst (v := (0 : Int32)) hx hb dL_fare_1 (by decide) ?_
  refine lv_aload_n hx hb dL_fare_2 rfl (lv_at hl 0 rfl) ?_
  refine lv_iload_n hx hb dL_fare_3 rfl (lv_at hl 1 rfl) ?_
  cases o with
  | inr v =>
    obtain ⟨rfl, rfl⟩ := hA
    refine w_cMT (As := [.int a1]) (v := v) C hT hW hO hl.1 (c_X10_fare l D A1 b G q hT a1 u h) mv_L_53 ⟨Nat.le_of_ble_eq_true rfl, Nat.le_of_ble_eq_true rfl⟩ rfl rfl dL_fare_4 hΦ fun H1 locs1 h1 h2 h3 => ?_
    exact w_ok C h3 h1 h2 rfl (fun w hw => by rw [if_pos rfl] at hw; exact (Option.some.inj hw).symm) (Nat.zero_le _) (Nat.zero_le _) dL_fare_7 dL_fare_8 dL_fare_9 rfl dL_fare_15 dL_fare_16
  | inl E =>
    have hA : (E, t) ∈ [("java/lang/IllegalArgumentException", 1)] := hA
    rcases List.mem_singleton.mp hA with hA1
    cases hA1
    refine w_cTX (As := [.int a1]) C hT hW hO hl.1 (t_X10_fare l D A1 b G q hT hst a1 u h) mv_L_53 ⟨Nat.le_of_ble_eq_true rfl, Nat.le_of_ble_eq_true rfl⟩ rfl rfl dL_fare_4 hΦ fun ce q9 H1 locs1 h1 h2 h3 g1 g2 g3 => ?_
    refine w_catch1 C (by decide) w_cl_L_13 (by decide) (by decide) g1 g2 g3 ?_
    refine lv_astore_n hx hb dL_fare_12 rfl hl (by decide) rfl (fun ls hl => ?_)
    exact w_no C h3 h1 h2 (if_neg (by decide)) (by decide) (by decide) (by decide) dL_fare_13 dL_fare_14
theorem c_L_bribe (l : Launch) (hst : l.stackTraces = false) (D : zD) (A1 : Nat → Prop) (b ob : Nat) (dJ : ClassId) (G : zG) (q : zq) (hT : zTop G q) (a1 : Int32) (u : zU) {o : String ⊕ Int32} {q' : zq} {u' : zU} (h : f_X10_bribe q a1 u = some (o, q', u')) {x t : Int32} (hA : ANS [("java/lang/IllegalArgumentException", 1), ("java/lang/IllegalStateException", 2)] o x t) {Φ : zG → zq → zU → Prop} (hΦ : Φ G q' u') : wM l D A1 b ob dJ yL_bribe cL_bribe 4 [(0, 9, 12, 13), (0, 9, 15, 37)] [.ref (b + 0), .int a1, .ref ob] G q u t (if t = 0 then some x else none) Φ := by
  refine w_enter (by decide) (Nat.le_of_ble_eq_true rfl) ?_
  intro p e s m below meth c ls C hW hO hl
  have hl : lv_has ls 4 [(0, .ref (b + 0)), (1, .int a1), (2, .ref ob)] := hl
  have hx := C.1.1
  have hb := C.1.2.1
  refine lv_aload_n hx hb dL_bribe_0 rfl (lv_at hl 2 rfl) ?_
  refine lv_iconst (v := (0 : Int32)) hx hb dL_bribe_1 (by decide) ?_
  refine lv_aload_n hx hb dL_bribe_2 rfl (lv_at hl 0 rfl) ?_
  refine lv_iload_n hx hb dL_bribe_3 rfl (lv_at hl 1 rfl) ?_
  cases o with
  | inr v =>
    obtain ⟨rfl, rfl⟩ := hA
    refine w_cMT (As := [.int a1]) (v := v) C hT hW hO hl.1 (c_X10_bribe l D A1 b G q hT a1 u h) mv_L_56 ⟨Nat.le_of_ble_eq_true rfl, Nat.le_of_ble_eq_true rfl⟩ rfl rfl dL_bribe_4 hΦ fun H1 locs1 h1 h2 h3 => ?_
    exact w_ok C h3 h1 h2 rfl (fun w hw => by rw [if_pos rfl] at hw; exact (Option.some.inj hw).symm) (Nat.zero_le _) (Nat.zero_le _) dL_bribe_7 dL_bribe_8 dL_bribe_9 rfl dL_bribe_18 dL_bribe_19
  | inl E =>
    have hA : (E, t) ∈ [("java/lang/IllegalArgumentException", 1), ("java/lang/IllegalStateException", 2)] := hA
    rcases List.mem_cons.mp hA with hA1 | hA1
    · cases hA1
      refine w_cTX (As := [.int a1]) C hT hW hO hl.1 (t_X10_bribe l D A1 b G q hT hst a1 u h) mv_L_56 ⟨Nat.le_of_ble_eq_true rfl, Nat.le_of_ble_eq_true rfl⟩ rfl rfl dL_bribe_4 hΦ fun ce q9 H1 locs1 h1 h2 h3 g1 g2 g3 => ?_
      refine w_catch1 C (by decide) w_cl_L_13 (by decide) (by decide) g1 g2 g3 ?_
      refine lv_astore_n hx hb dL_bribe_12 rfl hl (by decide) rfl (fun ls hl => ?_)
      exact w_no C h3 h1 h2 (if_neg (by decide)) (by decide) (by decide) (by decide) dL_bribe_13 dL_bribe_14
    · cases List.mem_singleton.mp hA1
      refine w_cTX (As := [.int a1]) C hT hW hO hl.1 (t_X10_bribe l D A1 b G q hT hst a1 u h) mv_L_56 ⟨Nat.le_of_ble_eq_true rfl, Nat.le_of_ble_eq_true rfl⟩ rfl rfl dL_bribe_4 hΦ fun ce q9 H1 locs1 h1 h2 h3 g1 g2 g3 => ?_
      refine w_catch2 (N1 := "java/lang/IllegalArgumentException") C (by decide) (by decide) w_cl_L_13 w_cl_L_37 (by decide) (by decide) (by decide) (by decide) g1 g2 g3 ?_
      refine lv_astore_n hx hb dL_bribe_15 rfl hl (by decide) rfl (fun ls hl => ?_)
      exact w_no C h3 h1 h2 (if_neg (by decide)) (by decide) (by decide) (by decide) dL_bribe_16 dL_bribe_17
theorem c_L_stops (l : Launch) (hst : l.stackTraces = false) (D : zD) (A1 : Nat → Prop) (b ob : Nat) (dJ : ClassId) (G : zG) (q : zq) (hT : zTop G q) (a1 : Int32) (u : zU) {o : String ⊕ Int32} {q' : zq} {u' : zU} (h : f_X10_stops q a1 u = some (o, q', u')) {x t : Int32} (hA : ANS [("java/lang/IllegalArgumentException", 1)] o x t) {Φ : zG → zq → zU → Prop} (hΦ : Φ G q' u') : wM l D A1 b ob dJ yL_stops cL_stops 4 [(0, 9, 12, 13)] [.ref (b + 0), .int a1, .ref ob] G q u t (if t = 0 then some x else none) Φ := by
  refine w_enter (by decide) (Nat.le_of_ble_eq_true rfl) ?_
  intro p e s m below meth c ls C hW hO hl
  have hl : lv_has ls 4 [(0, .ref (b + 0)), (1, .int a1), (2, .ref ob)] := hl
  have hx := C.1.1
  have hb := C.1.2.1
  refine lv_aload_n hx hb dL_stops_0 rfl (lv_at hl 2 rfl) ?_
  refine lv_iconst (v := (0 : Int32)) hx hb dL_stops_1 (by decide) ?_
  refine lv_aload_n hx hb dL_stops_2 rfl (lv_at hl 0 rfl) ?_
  refine lv_iload_n hx hb dL_stops_3 rfl (lv_at hl 1 rfl) ?_
  cases o with
  | inr v =>
    obtain ⟨rfl, rfl⟩ := hA
    refine w_cMT (As := [.int a1]) (v := v) C hT hW hO hl.1 (c_X10_stops l D A1 b G q hT a1 u h) mv_L_59 ⟨Nat.le_of_ble_eq_true rfl, Nat.le_of_ble_eq_true rfl⟩ rfl rfl dL_stops_4 hΦ fun H1 locs1 h1 h2 h3 => ?_
    exact w_ok C h3 h1 h2 rfl (fun w hw => by rw [if_pos rfl] at hw; exact (Option.some.inj hw).symm) (Nat.zero_le _) (Nat.zero_le _) dL_stops_7 dL_stops_8 dL_stops_9 rfl dL_stops_15 dL_stops_16
  | inl E =>
    have hA : (E, t) ∈ [("java/lang/IllegalArgumentException", 1)] := hA
    rcases List.mem_singleton.mp hA with hA1
    cases hA1
    refine w_cTX (As := [.int a1]) C hT hW hO hl.1 (t_X10_stops l D A1 b G q hT hst a1 u h) mv_L_59 ⟨Nat.le_of_ble_eq_true rfl, Nat.le_of_ble_eq_true rfl⟩ rfl rfl dL_stops_4 hΦ fun ce q9 H1 locs1 h1 h2 h3 g1 g2 g3 => ?_
    refine w_catch1 C (by decide) w_cl_L_13 (by decide) (by decide) g1 g2 g3 ?_
    refine lv_astore_n hx hb dL_stops_12 rfl hl (by decide) rfl (fun ls hl => ?_)
    exact w_no C h3 h1 h2 (if_neg (by decide)) (by decide) (by decide) (by decide) dL_stops_13 dL_stops_14
theorem c_L_odds (l : Launch) (hst : l.stackTraces = false) (D : zD) (A1 : Nat → Prop) (b ob : Nat) (dJ : ClassId) (G : zG) (q : zq) (hT : zTop G q) (a1 : Int32) (a2 : Int32) (u : zU) {o : String ⊕ Int32} {q' : zq} {u' : zU} (h : f_X10_odds q a1 a2 u = some (o, q', u')) {x t : Int32} (hA : ANS [("java/lang/IndexOutOfBoundsException", 1), ("java/lang/IllegalArgumentException", 2)] o x t) {Φ : zG → zq → zU → Prop} (hΦ : Φ G q' u') : wM l D A1 b ob dJ yL_odds cL_odds 5 [(0, 10, 13, 24), (0, 10, 17, 13)] [.ref (b + 0), .int a1, .int a2, .ref ob] G q u t (if t = 0 then some x else none) Φ := by
  refine w_enter (by decide) (Nat.le_of_ble_eq_true rfl) ?_
  intro p e s m below meth c ls C hW hO hl
  have hl : lv_has ls 5 [(0, .ref (b + 0)), (1, .int a1), (2, .int a2), (3, .ref ob)] := hl
  have hx := C.1.1
  have hb := C.1.2.1
  refine lv_aload_n hx hb dL_odds_0 rfl (lv_at hl 3 rfl) ?_
  refine lv_iconst (v := (0 : Int32)) hx hb dL_odds_1 (by decide) ?_
  refine lv_aload_n hx hb dL_odds_2 rfl (lv_at hl 0 rfl) ?_
  refine lv_iload_n hx hb dL_odds_3 rfl (lv_at hl 1 rfl) ?_
  refine lv_iload_n hx hb dL_odds_4 rfl (lv_at hl 2 rfl) ?_
  cases o with
  | inr v =>
    obtain ⟨rfl, rfl⟩ := hA
    refine w_cMTN (As := [.int a1, .int a2]) (v := v) C hT hW hO hl.1 (fun N => c_X10_odds l D A1 b G N q hT a1 a2 u h) mv_L_62 ⟨Nat.le_of_ble_eq_true rfl, Nat.le_of_ble_eq_true rfl⟩ rfl rfl dL_odds_5 hΦ fun H1 locs1 h1 h2 h3 => ?_
    exact w_ok C h3 h1 h2 rfl (fun w hw => by rw [if_pos rfl] at hw; exact (Option.some.inj hw).symm) (by decide) (by decide) dL_odds_8 dL_odds_9 dL_odds_10 rfl dL_odds_21 dL_odds_22
  | inl E =>
    have hA : (E, t) ∈ [("java/lang/IndexOutOfBoundsException", 1), ("java/lang/IllegalArgumentException", 2)] := hA
    rcases List.mem_cons.mp hA with hA1 | hA1
    · cases hA1
      refine w_cTX (As := [.int a1, .int a2]) C hT hW hO hl.1 (t_X10_odds l D A1 b G q hT hst a1 a2 u h) mv_L_62 ⟨Nat.le_of_ble_eq_true rfl, Nat.le_of_ble_eq_true rfl⟩ rfl rfl dL_odds_5 hΦ fun ce q9 H1 locs1 h1 h2 h3 g1 g2 g3 => ?_
      refine w_catch1 C (by decide) w_cl_L_24 (by decide) (by decide) g1 g2 g3 ?_
      refine lv_astore hx hb dL_odds_13 hl (by decide) rfl (fun ls hl => ?_)
      exact w_no C h3 h1 h2 (if_neg (by decide)) (by decide) (by decide) (by decide) dL_odds_15 dL_odds_16
    · cases List.mem_singleton.mp hA1
      refine w_cTX (As := [.int a1, .int a2]) C hT hW hO hl.1 (t_X10_odds l D A1 b G q hT hst a1 a2 u h) mv_L_62 ⟨Nat.le_of_ble_eq_true rfl, Nat.le_of_ble_eq_true rfl⟩ rfl rfl dL_odds_5 hΦ fun ce q9 H1 locs1 h1 h2 h3 g1 g2 g3 => ?_
      refine w_catch2 (N1 := "java/lang/IndexOutOfBoundsException") C (by decide) (by decide) w_cl_L_24 w_cl_L_13 (by decide) (by decide) (by decide) (by decide) g1 g2 g3 ?_
      refine lv_astore hx hb dL_odds_17 hl (by decide) rfl (fun ls hl => ?_)
      exact w_no C h3 h1 h2 (if_neg (by decide)) (by decide) (by decide) (by decide) dL_odds_19 dL_odds_20
theorem c_L_best (l : Launch) (hst : l.stackTraces = false) (D : zD) (A1 : Nat → Prop) (b ob : Nat) (dJ : ClassId) (G : zG) (q : zq) (hT : zTop G q) (a1 : Int32) (u : zU) (op : Int32 → Bool) (hop : ∀ u1 : zU, (∀ r, (zg G q r).1 ≠ 0 → u1 r = u r) → ∀ c, f_X9_isOpen 6 (q 0) c u1 = some (op c)) {o : String ⊕ Int32} {q' : zq} {u' : zU} (h : f_X10_best op q a1 u = some (o, q', u')) {x t : Int32} (hA : ANS [("java/lang/IllegalArgumentException", 1)] o x t) {Φ : zG → zq → zU → Prop} (hΦ : Φ G q' u') : wM l D A1 b ob dJ yL_best cL_best 4 [(0, 9, 12, 13)] [.ref (b + 0), .int a1, .ref ob] G q u t (if t = 0 then some x else none) Φ := by
  refine w_enter (by decide) (Nat.le_of_ble_eq_true rfl) ?_
  intro p e s m below meth c ls C hW hO hl
  have hl : lv_has ls 4 [(0, .ref (b + 0)), (1, .int a1), (2, .ref ob)] := hl
  have hx := C.1.1
  have hb := C.1.2.1
  refine lv_aload_n hx hb dL_best_0 rfl (lv_at hl 2 rfl) ?_
  refine lv_iconst (v := (0 : Int32)) hx hb dL_best_1 (by decide) ?_
  refine lv_aload_n hx hb dL_best_2 rfl (lv_at hl 0 rfl) ?_
  refine lv_iload_n hx hb dL_best_3 rfl (lv_at hl 1 rfl) ?_
  cases o with
  | inr v =>
    obtain ⟨rfl, rfl⟩ := hA
    refine w_cMTN (As := [.int a1]) (v := v) C hT hW hO hl.1 (fun N => c_X10_best l D A1 b G N q hT op a1 u hop h) mv_L_65 ⟨Nat.le_of_ble_eq_true rfl, Nat.le_of_ble_eq_true rfl⟩ rfl rfl dL_best_4 hΦ fun H1 locs1 h1 h2 h3 => ?_
    exact w_ok C h3 h1 h2 rfl (fun w hw => by rw [if_pos rfl] at hw; exact (Option.some.inj hw).symm) (by decide) (by decide) dL_best_7 dL_best_8 dL_best_9 rfl dL_best_15 dL_best_16
  | inl E =>
    have hA : (E, t) ∈ [("java/lang/IllegalArgumentException", 1)] := hA
    rcases List.mem_singleton.mp hA with hA1
    cases hA1
    refine w_cTX (As := [.int a1]) C hT hW hO hl.1 (t_X10_best l D A1 b G q hT hst op a1 u h) mv_L_65 ⟨Nat.le_of_ble_eq_true rfl, Nat.le_of_ble_eq_true rfl⟩ rfl rfl dL_best_4 hΦ fun ce q9 H1 locs1 h1 h2 h3 g1 g2 g3 => ?_
    refine w_catch1 C (by decide) w_cl_L_13 (by decide) (by decide) g1 g2 g3 ?_
    refine lv_astore_n hx hb dL_best_12 rfl hl (by decide) rfl (fun ls hl => ?_)
    exact w_no C h3 h1 h2 (if_neg (by decide)) (by decide) (by decide) (by decide) dL_best_13 dL_best_14
theorem c_L_rules (l : Launch) (hst : l.stackTraces = false) (D : zD) (A1 : Nat → Prop) (b ob : Nat) (dJ : ClassId) (G : zG) (q : zq) (hT : zTop G q) (a1 : Int32) (a2 : Int32) (u : zU) (fi : Int32 → Int32) (hfi : ∀ u1 : zU, (∀ r, (zg G q r).1 ≠ 0 → u1 r = u r) → ∀ c, f_X9_firstIn 6 (q 0) c u1 = some (fi c)) {o : String ⊕ Int32} {q' : zq} {u' : zU} (h : f_X10_rules fi q a1 a2 u = some (o, q', u')) {x t : Int32} (hA : ANS [("java/lang/IndexOutOfBoundsException", 1), ("java/lang/IllegalArgumentException", 2)] o x t) {Φ : zG → zq → zU → Prop} (hΦ : Φ G q' u') : wM l D A1 b ob dJ yL_rules cL_rules 5 [(0, 10, 13, 24), (0, 10, 17, 13)] [.ref (b + 0), .int a1, .int a2, .ref ob] G q u t (if t = 0 then some x else none) Φ := by
  refine w_enter (by decide) (Nat.le_of_ble_eq_true rfl) ?_
  intro p e s m below meth c ls C hW hO hl
  have hl : lv_has ls 5 [(0, .ref (b + 0)), (1, .int a1), (2, .int a2), (3, .ref ob)] := hl
  have hx := C.1.1
  have hb := C.1.2.1
  refine lv_aload_n hx hb dL_rules_0 rfl (lv_at hl 3 rfl) ?_
  refine lv_iconst (v := (0 : Int32)) hx hb dL_rules_1 (by decide) ?_
  refine lv_aload_n hx hb dL_rules_2 rfl (lv_at hl 0 rfl) ?_
  refine lv_iload_n hx hb dL_rules_3 rfl (lv_at hl 1 rfl) ?_
  refine lv_iload_n hx hb dL_rules_4 rfl (lv_at hl 2 rfl) ?_
  cases o with
  | inr v =>
    obtain ⟨rfl, rfl⟩ := hA
    refine w_cMTN (As := [.int a1, .int a2]) (v := v) C hT hW hO hl.1 (fun N => c_X10_rules l D A1 b G N q hT fi a1 a2 u hfi h) mv_L_68 ⟨Nat.le_of_ble_eq_true rfl, Nat.le_of_ble_eq_true rfl⟩ rfl rfl dL_rules_5 hΦ fun H1 locs1 h1 h2 h3 => ?_
    exact w_ok C h3 h1 h2 rfl (fun w hw => by rw [if_pos rfl] at hw; exact (Option.some.inj hw).symm) (by decide) (by decide) dL_rules_8 dL_rules_9 dL_rules_10 rfl dL_rules_21 dL_rules_22
  | inl E =>
    have hA : (E, t) ∈ [("java/lang/IndexOutOfBoundsException", 1), ("java/lang/IllegalArgumentException", 2)] := hA
    rcases List.mem_cons.mp hA with hA1 | hA1
    · cases hA1
      refine w_cTX (As := [.int a1, .int a2]) C hT hW hO hl.1 (t_X10_rules l D A1 b G q hT hst fi a1 a2 u h) mv_L_68 ⟨Nat.le_of_ble_eq_true rfl, Nat.le_of_ble_eq_true rfl⟩ rfl rfl dL_rules_5 hΦ fun ce q9 H1 locs1 h1 h2 h3 g1 g2 g3 => ?_
      refine w_catch1 C (by decide) w_cl_L_24 (by decide) (by decide) g1 g2 g3 ?_
      refine lv_astore hx hb dL_rules_13 hl (by decide) rfl (fun ls hl => ?_)
      exact w_no C h3 h1 h2 (if_neg (by decide)) (by decide) (by decide) (by decide) dL_rules_15 dL_rules_16
    · cases List.mem_singleton.mp hA1
      refine w_cTX (As := [.int a1, .int a2]) C hT hW hO hl.1 (t_X10_rules l D A1 b G q hT hst fi a1 a2 u h) mv_L_68 ⟨Nat.le_of_ble_eq_true rfl, Nat.le_of_ble_eq_true rfl⟩ rfl rfl dL_rules_5 hΦ fun ce q9 H1 locs1 h1 h2 h3 g1 g2 g3 => ?_
      refine w_catch2 (N1 := "java/lang/IndexOutOfBoundsException") C (by decide) (by decide) w_cl_L_24 w_cl_L_13 (by decide) (by decide) (by decide) (by decide) g1 g2 g3 ?_
      refine lv_astore hx hb dL_rules_17 hl (by decide) rfl (fun ls hl => ?_)
      exact w_no C h3 h1 h2 (if_neg (by decide)) (by decide) (by decide) (by decide) dL_rules_19 dL_rules_20
theorem c_L_seat (l : Launch) (hst : l.stackTraces = false) (D : zD) (A1 : Nat → Prop) (b ob : Nat) (dJ : ClassId) (G : zG) (q : zq) (hT : zTop G q) (a1 : Int32) (u : zU) {o : String ⊕ Int32} {q' : zq} {u' : zU} (h : f_X10_seat q a1 u = some (o, q', u')) {x t : Int32} (hA : ANS [("java/lang/IndexOutOfBoundsException", 1)] o x t) {Φ : zG → zq → zU → Prop} (hΦ : Φ G q' u') : wM l D A1 b ob dJ yL_seat cL_seat 4 [(0, 9, 12, 24)] [.ref (b + 0), .int a1, .ref ob] G q u t (if t = 0 then some x else none) Φ := by
  refine w_enter (by decide) (Nat.le_of_ble_eq_true rfl) ?_
  intro p e s m below meth c ls C hW hO hl
  have hl : lv_has ls 4 [(0, .ref (b + 0)), (1, .int a1), (2, .ref ob)] := hl
  have hx := C.1.1
  have hb := C.1.2.1
  refine lv_aload_n hx hb dL_seat_0 rfl (lv_at hl 2 rfl) ?_
  refine lv_iconst (v := (0 : Int32)) hx hb dL_seat_1 (by decide) ?_
  refine lv_aload_n hx hb dL_seat_2 rfl (lv_at hl 0 rfl) ?_
  refine lv_iload_n hx hb dL_seat_3 rfl (lv_at hl 1 rfl) ?_
  cases o with
  | inr v =>
    obtain ⟨rfl, rfl⟩ := hA
    refine w_cMT (As := [.int a1]) (v := v) C hT hW hO hl.1 (c_X10_seat l D A1 b G q hT a1 u h) mv_L_71 ⟨Nat.le_of_ble_eq_true rfl, Nat.le_of_ble_eq_true rfl⟩ rfl rfl dL_seat_4 hΦ fun H1 locs1 h1 h2 h3 => ?_
    exact w_ok C h3 h1 h2 rfl (fun w hw => by rw [if_pos rfl] at hw; exact (Option.some.inj hw).symm) (Nat.zero_le _) (Nat.zero_le _) dL_seat_7 dL_seat_8 dL_seat_9 rfl dL_seat_15 dL_seat_16
  | inl E =>
    have hA : (E, t) ∈ [("java/lang/IndexOutOfBoundsException", 1)] := hA
    rcases List.mem_singleton.mp hA with hA1
    cases hA1
    refine w_cTX (As := [.int a1]) C hT hW hO hl.1 (t_X10_seat l D A1 b G q hT hst a1 u h) mv_L_71 ⟨Nat.le_of_ble_eq_true rfl, Nat.le_of_ble_eq_true rfl⟩ rfl rfl dL_seat_4 hΦ fun ce q9 H1 locs1 h1 h2 h3 g1 g2 g3 => ?_
    refine w_catch1 C (by decide) w_cl_L_24 (by decide) (by decide) g1 g2 g3 ?_
    refine lv_astore_n hx hb dL_seat_12 rfl hl (by decide) rfl (fun ls hl => ?_)
    exact w_no C h3 h1 h2 (if_neg (by decide)) (by decide) (by decide) (by decide) dL_seat_13 dL_seat_14
theorem c_L_rests (l : Launch) (hst : l.stackTraces = false) (D : zD) (A1 : Nat → Prop) (b ob : Nat) (dJ : ClassId) (G : zG) (q : zq) (hT : zTop G q) (a1 : Int32) (a2 : Int32) (u : zU) {o : String ⊕ Int32} {q' : zq} {u' : zU} (h : f_X10_rests q a1 a2 u = some (o, q', u')) {x t : Int32} (hA : ANS [("java/lang/IndexOutOfBoundsException", 1), ("java/lang/IllegalArgumentException", 2)] o x t) {Φ : zG → zq → zU → Prop} (hΦ : Φ G q' u') : wM l D A1 b ob dJ yL_rests cL_rests 5 [(0, 10, 13, 24), (0, 10, 17, 13)] [.ref (b + 0), .int a1, .int a2, .ref ob] G q u t (if t = 0 then some x else none) Φ := by
  refine w_enter (by decide) (Nat.le_of_ble_eq_true rfl) ?_
  intro p e s m below meth c ls C hW hO hl
  have hl : lv_has ls 5 [(0, .ref (b + 0)), (1, .int a1), (2, .int a2), (3, .ref ob)] := hl
  have hx := C.1.1
  have hb := C.1.2.1
  refine lv_aload_n hx hb dL_rests_0 rfl (lv_at hl 3 rfl) ?_
  refine lv_iconst (v := (0 : Int32)) hx hb dL_rests_1 (by decide) ?_
  refine lv_aload_n hx hb dL_rests_2 rfl (lv_at hl 0 rfl) ?_
  refine lv_iload_n hx hb dL_rests_3 rfl (lv_at hl 1 rfl) ?_
  refine lv_iload_n hx hb dL_rests_4 rfl (lv_at hl 2 rfl) ?_
  cases o with
  | inr v =>
    obtain ⟨rfl, rfl⟩ := hA
    refine w_cMT (As := [.int a1, .int a2]) (v := v) C hT hW hO hl.1 (c_X10_rests l D A1 b G q hT a1 a2 u h) mv_L_74 ⟨Nat.le_of_ble_eq_true rfl, Nat.le_of_ble_eq_true rfl⟩ rfl rfl dL_rests_5 hΦ fun H1 locs1 h1 h2 h3 => ?_
    exact w_ok C h3 h1 h2 rfl (fun w hw => by rw [if_pos rfl] at hw; exact (Option.some.inj hw).symm) (Nat.zero_le _) (Nat.zero_le _) dL_rests_8 dL_rests_9 dL_rests_10 rfl dL_rests_21 dL_rests_22
  | inl E =>
    have hA : (E, t) ∈ [("java/lang/IndexOutOfBoundsException", 1), ("java/lang/IllegalArgumentException", 2)] := hA
    rcases List.mem_cons.mp hA with hA1 | hA1
    · cases hA1
      refine w_cTX (As := [.int a1, .int a2]) C hT hW hO hl.1 (t_X10_rests l D A1 b G q hT hst a1 a2 u h) mv_L_74 ⟨Nat.le_of_ble_eq_true rfl, Nat.le_of_ble_eq_true rfl⟩ rfl rfl dL_rests_5 hΦ fun ce q9 H1 locs1 h1 h2 h3 g1 g2 g3 => ?_
      refine w_catch1 C (by decide) w_cl_L_24 (by decide) (by decide) g1 g2 g3 ?_
      refine lv_astore hx hb dL_rests_13 hl (by decide) rfl (fun ls hl => ?_)
      exact w_no C h3 h1 h2 (if_neg (by decide)) (by decide) (by decide) (by decide) dL_rests_15 dL_rests_16
    · cases List.mem_singleton.mp hA1
      refine w_cTX (As := [.int a1, .int a2]) C hT hW hO hl.1 (t_X10_rests l D A1 b G q hT hst a1 a2 u h) mv_L_74 ⟨Nat.le_of_ble_eq_true rfl, Nat.le_of_ble_eq_true rfl⟩ rfl rfl dL_rests_5 hΦ fun ce q9 H1 locs1 h1 h2 h3 g1 g2 g3 => ?_
      refine w_catch2 (N1 := "java/lang/IndexOutOfBoundsException") C (by decide) (by decide) w_cl_L_24 w_cl_L_13 (by decide) (by decide) (by decide) (by decide) g1 g2 g3 ?_
      refine lv_astore hx hb dL_rests_17 hl (by decide) rfl (fun ls hl => ?_)
      exact w_no C h3 h1 h2 (if_neg (by decide)) (by decide) (by decide) (by decide) dL_rests_19 dL_rests_20
theorem c_L_moves (l : Launch) (hst : l.stackTraces = false) (D : zD) (A1 : Nat → Prop) (b ob : Nat) (dJ : ClassId) (G : zG) (q : zq) (hT : zTop G q) (a1 : Bool) (u : zU) {o : String ⊕ Int32} {q' : zq} {u' : zU} (h : f_X10_moves q a1 u = some (o, q', u')) {x t : Int32} (hA : ANS [("java/lang/IllegalArgumentException", 1)] o x t) {Φ : zG → zq → zU → Prop} (hΦ : Φ G q' u') : wM l D A1 b ob dJ yL_moves cL_moves 4 [(0, 9, 12, 13)] [.ref (b + 0), .int (bI a1), .ref ob] G q u t (if t = 0 then some x else none) Φ := by
  refine w_enter (by decide) (Nat.le_of_ble_eq_true rfl) ?_
  intro p e s m below meth c ls C hW hO hl
  have hl : lv_has ls 4 [(0, .ref (b + 0)), (1, .int (bI a1)), (2, .ref ob)] := hl
  have hx := C.1.1
  have hb := C.1.2.1
  refine lv_aload_n hx hb dL_moves_0 rfl (lv_at hl 2 rfl) ?_
  refine lv_iconst (v := (0 : Int32)) hx hb dL_moves_1 (by decide) ?_
  refine lv_aload_n hx hb dL_moves_2 rfl (lv_at hl 0 rfl) ?_
  refine lv_iload_n hx hb dL_moves_3 rfl (lv_at hl 1 rfl) ?_
  cases o with
  | inr v =>
    obtain ⟨rfl, rfl⟩ := hA
    refine w_cMT (As := [.int (bI a1)]) (v := v) C hT hW hO hl.1 (c_X10_moves l D A1 b G q hT a1 u h) mv_L_77 ⟨Nat.le_of_ble_eq_true rfl, Nat.le_of_ble_eq_true rfl⟩ rfl rfl dL_moves_4 hΦ fun H1 locs1 h1 h2 h3 => ?_
    exact w_ok C h3 h1 h2 rfl (fun w hw => by rw [if_pos rfl] at hw; exact (Option.some.inj hw).symm) (Nat.zero_le _) (Nat.zero_le _) dL_moves_7 dL_moves_8 dL_moves_9 rfl dL_moves_15 dL_moves_16
  | inl E =>
    have hA : (E, t) ∈ [("java/lang/IllegalArgumentException", 1)] := hA
    rcases List.mem_singleton.mp hA with hA1
    cases hA1
    refine w_cTX (As := [.int (bI a1)]) C hT hW hO hl.1 (t_X10_moves l D A1 b G q hT hst a1 u h) mv_L_77 ⟨Nat.le_of_ble_eq_true rfl, Nat.le_of_ble_eq_true rfl⟩ rfl rfl dL_moves_4 hΦ fun ce q9 H1 locs1 h1 h2 h3 g1 g2 g3 => ?_
    refine w_catch1 C (by decide) w_cl_L_13 (by decide) (by decide) g1 g2 g3 ?_
    refine lv_astore_n hx hb dL_moves_12 rfl hl (by decide) rfl (fun ls hl => ?_)
    exact w_no C h3 h1 h2 (if_neg (by decide)) (by decide) (by decide) (by decide) dL_moves_13 dL_moves_14
theorem c_L_watch (l : Launch) (hst : l.stackTraces = false) (D : zD) (A1 : Nat → Prop) (b ob : Nat) (dJ : ClassId) (G : zG) (q : zq) (hT : zTop G q) (u : zU) {o : String ⊕ Int32} {q' : zq} {u' : zU} (h : f_X10_watch q u = some (o, q', u')) {x t : Int32} (hA : ANS [("java/lang/IllegalArgumentException", 1)] o x t) {Φ : zG → zq → zU → Prop} (hΦ : Φ G q' u') : wM l D A1 b ob dJ yL_watch cL_watch 3 [(0, 8, 11, 13)] [.ref (b + 0), .ref ob] G q u t (if t = 0 then some x else none) Φ := by
  refine w_enter (by decide) (Nat.le_of_ble_eq_true rfl) ?_
  intro p e s m below meth c ls C hW hO hl
  have hl : lv_has ls 3 [(0, .ref (b + 0)), (1, .ref ob)] := hl
  have hx := C.1.1
  have hb := C.1.2.1
  refine lv_aload_n hx hb dL_watch_0 rfl (lv_at hl 1 rfl) ?_
  refine lv_iconst (v := (0 : Int32)) hx hb dL_watch_1 (by decide) ?_
  refine lv_aload_n hx hb dL_watch_2 rfl (lv_at hl 0 rfl) ?_
  cases o with
  | inr v =>
    obtain ⟨rfl, rfl⟩ := hA
    refine w_cMT (As := []) (v := v) C hT hW hO hl.1 (c_X10_watch l D A1 b G q hT u h) mv_L_81 ⟨Nat.le_of_ble_eq_true rfl, Nat.le_of_ble_eq_true rfl⟩ rfl rfl dL_watch_3 hΦ fun H1 locs1 h1 h2 h3 => ?_
    exact w_ok C h3 h1 h2 rfl (fun w hw => by rw [if_pos rfl] at hw; exact (Option.some.inj hw).symm) (Nat.zero_le _) (Nat.zero_le _) dL_watch_6 dL_watch_7 dL_watch_8 rfl dL_watch_14 dL_watch_15
  | inl E =>
    have hA : (E, t) ∈ [("java/lang/IllegalArgumentException", 1)] := hA
    rcases List.mem_singleton.mp hA with hA1
    cases hA1
    refine w_cTX (As := []) C hT hW hO hl.1 (t_X10_watch l D A1 b G q hT hst u h) mv_L_81 ⟨Nat.le_of_ble_eq_true rfl, Nat.le_of_ble_eq_true rfl⟩ rfl rfl dL_watch_3 hΦ fun ce q9 H1 locs1 h1 h2 h3 g1 g2 g3 => ?_
    refine w_catch1 C (by decide) w_cl_L_13 (by decide) (by decide) g1 g2 g3 ?_
    refine lv_astore_n hx hb dL_watch_11 rfl hl (by decide) rfl (fun ls hl => ?_)
    exact w_no C h3 h1 h2 (if_neg (by decide)) (by decide) (by decide) (by decide) dL_watch_12 dL_watch_13
theorem c_L_fire (l : Launch) (hst : l.stackTraces = false) (D : zD) (A1 : Nat → Prop) (b ob : Nat) (dJ : ClassId) (G : zG) (q : zq) (hT : zTop G q) (u : zU) {o : String ⊕ Int32} {q' : zq} {u' : zU} (h : f_X10_fire q u = some (o, q', u')) {x t : Int32} (hA : ANS [("java/lang/IllegalArgumentException", 1)] o x t) {Φ : zG → zq → zU → Prop} (hΦ : Φ G q' u') : wM l D A1 b ob dJ yL_fire cL_fire 3 [(0, 8, 11, 13)] [.ref (b + 0), .ref ob] G q u t (if t = 0 then some x else none) Φ := by
  refine w_enter (by decide) (Nat.le_of_ble_eq_true rfl) ?_
  intro p e s m below meth c ls C hW hO hl
  have hl : lv_has ls 3 [(0, .ref (b + 0)), (1, .ref ob)] := hl
  have hx := C.1.1
  have hb := C.1.2.1
  refine lv_aload_n hx hb dL_fire_0 rfl (lv_at hl 1 rfl) ?_
  refine lv_iconst (v := (0 : Int32)) hx hb dL_fire_1 (by decide) ?_
  refine lv_aload_n hx hb dL_fire_2 rfl (lv_at hl 0 rfl) ?_
  cases o with
  | inr v =>
    obtain ⟨rfl, rfl⟩ := hA
    refine w_cMT (As := []) (v := v) C hT hW hO hl.1 (c_X10_fire l D A1 b G q hT u h) mv_L_84 ⟨Nat.le_of_ble_eq_true rfl, Nat.le_of_ble_eq_true rfl⟩ rfl rfl dL_fire_3 hΦ fun H1 locs1 h1 h2 h3 => ?_
    exact w_ok C h3 h1 h2 rfl (fun w hw => by rw [if_pos rfl] at hw; exact (Option.some.inj hw).symm) (Nat.zero_le _) (Nat.zero_le _) dL_fire_6 dL_fire_7 dL_fire_8 rfl dL_fire_14 dL_fire_15
  | inl E =>
    have hA : (E, t) ∈ [("java/lang/IllegalArgumentException", 1)] := hA
    rcases List.mem_singleton.mp hA with hA1
    cases hA1
    refine w_cTX (As := []) C hT hW hO hl.1 (t_X10_fire l D A1 b G q hT hst u h) mv_L_84 ⟨Nat.le_of_ble_eq_true rfl, Nat.le_of_ble_eq_true rfl⟩ rfl rfl dL_fire_3 hΦ fun ce q9 H1 locs1 h1 h2 h3 g1 g2 g3 => ?_
    refine w_catch1 C (by decide) w_cl_L_13 (by decide) (by decide) g1 g2 g3 ?_
    refine lv_astore_n hx hb dL_fire_11 rfl hl (by decide) rfl (fun ls hl => ?_)
    exact w_no C h3 h1 h2 (if_neg (by decide)) (by decide) (by decide) (by decide) dL_fire_12 dL_fire_13
theorem c_L_ask (l : Launch) (hst : l.stackTraces = false) (D : zD) (A1 : Nat → Prop) (b ob : Nat) (dJ : ClassId) (G : zG) (q : zq) (hT : zTop G q) (u : zU) {o : String ⊕ Int32} {q' : zq} {u' : zU} (h : f_X10_ask q u = some (o, q', u')) {x t : Int32} (hA : ANS [("java/lang/IllegalArgumentException", 1)] o x t) {Φ : zG → zq → zU → Prop} (hΦ : Φ G q' u') : wM l D A1 b ob dJ yL_ask cL_ask 3 [(0, 8, 11, 13)] [.ref (b + 0), .ref ob] G q u t (if t = 0 then some x else none) Φ := by
  refine w_enter (by decide) (Nat.le_of_ble_eq_true rfl) ?_
  intro p e s m below meth c ls C hW hO hl
  have hl : lv_has ls 3 [(0, .ref (b + 0)), (1, .ref ob)] := hl
  have hx := C.1.1
  have hb := C.1.2.1
  refine lv_aload_n hx hb dL_ask_0 rfl (lv_at hl 1 rfl) ?_
  refine lv_iconst (v := (0 : Int32)) hx hb dL_ask_1 (by decide) ?_
  refine lv_aload_n hx hb dL_ask_2 rfl (lv_at hl 0 rfl) ?_
  cases o with
  | inr v =>
    obtain ⟨rfl, rfl⟩ := hA
    refine w_cMT (As := []) (v := v) C hT hW hO hl.1 (c_X10_ask l D A1 b G q hT u h) mv_L_87 ⟨Nat.le_of_ble_eq_true rfl, Nat.le_of_ble_eq_true rfl⟩ rfl rfl dL_ask_3 hΦ fun H1 locs1 h1 h2 h3 => ?_
    exact w_ok C h3 h1 h2 rfl (fun w hw => by rw [if_pos rfl] at hw; exact (Option.some.inj hw).symm) (Nat.zero_le _) (Nat.zero_le _) dL_ask_6 dL_ask_7 dL_ask_8 rfl dL_ask_14 dL_ask_15
  | inl E =>
    have hA : (E, t) ∈ [("java/lang/IllegalArgumentException", 1)] := hA
    rcases List.mem_singleton.mp hA with hA1
    cases hA1
    refine w_cTX (As := []) C hT hW hO hl.1 (t_X10_ask l D A1 b G q hT hst u h) mv_L_87 ⟨Nat.le_of_ble_eq_true rfl, Nat.le_of_ble_eq_true rfl⟩ rfl rfl dL_ask_3 hΦ fun ce q9 H1 locs1 h1 h2 h3 g1 g2 g3 => ?_
    refine w_catch1 C (by decide) w_cl_L_13 (by decide) (by decide) g1 g2 g3 ?_
    refine lv_astore_n hx hb dL_ask_11 rfl hl (by decide) rfl (fun ls hl => ?_)
    exact w_no C h3 h1 h2 (if_neg (by decide)) (by decide) (by decide) (by decide) dL_ask_12 dL_ask_13
theorem c_L_boards (l : Launch) (hst : l.stackTraces = false) (D : zD) (A1 : Nat → Prop) (b ob : Nat) (dJ : ClassId) (G : zG) (q : zq) (hT : zTop G q) (a1 : Int32) (a2 : Int32) (u : zU) {o : String ⊕ Int32} {q' : zq} {u' : zU} (h : f_X10_boards q a1 a2 u = some (o, q', u')) {x t : Int32} (hA : ANS [("java/lang/IndexOutOfBoundsException", 1), ("java/lang/IllegalArgumentException", 2)] o x t) {Φ : zG → zq → zU → Prop} (hΦ : Φ G q' u') : wM l D A1 b ob dJ yL_boards cL_boards 5 [(0, 10, 13, 24), (0, 10, 17, 13)] [.ref (b + 0), .int a1, .int a2, .ref ob] G q u t (if t = 0 then some x else none) Φ := by
  refine w_enter (by decide) (Nat.le_of_ble_eq_true rfl) ?_
  intro p e s m below meth c ls C hW hO hl
  have hl : lv_has ls 5 [(0, .ref (b + 0)), (1, .int a1), (2, .int a2), (3, .ref ob)] := hl
  have hx := C.1.1
  have hb := C.1.2.1
  refine lv_aload_n hx hb dL_boards_0 rfl (lv_at hl 3 rfl) ?_
  refine lv_iconst (v := (0 : Int32)) hx hb dL_boards_1 (by decide) ?_
  refine lv_aload_n hx hb dL_boards_2 rfl (lv_at hl 0 rfl) ?_
  refine lv_iload_n hx hb dL_boards_3 rfl (lv_at hl 1 rfl) ?_
  refine lv_iload_n hx hb dL_boards_4 rfl (lv_at hl 2 rfl) ?_
  cases o with
  | inr v =>
    obtain ⟨rfl, rfl⟩ := hA
    refine w_cMT (As := [.int a1, .int a2]) (v := v) C hT hW hO hl.1 (c_X10_boards l D A1 b G q hT a1 a2 u h) mv_L_90 ⟨Nat.le_of_ble_eq_true rfl, Nat.le_of_ble_eq_true rfl⟩ rfl rfl dL_boards_5 hΦ fun H1 locs1 h1 h2 h3 => ?_
    exact w_ok C h3 h1 h2 rfl (fun w hw => by rw [if_pos rfl] at hw; exact (Option.some.inj hw).symm) (Nat.zero_le _) (Nat.zero_le _) dL_boards_8 dL_boards_9 dL_boards_10 rfl dL_boards_21 dL_boards_22
  | inl E =>
    have hA : (E, t) ∈ [("java/lang/IndexOutOfBoundsException", 1), ("java/lang/IllegalArgumentException", 2)] := hA
    rcases List.mem_cons.mp hA with hA1 | hA1
    · cases hA1
      refine w_cTX (As := [.int a1, .int a2]) C hT hW hO hl.1 (t_X10_boards l D A1 b G q hT hst a1 a2 u h) mv_L_90 ⟨Nat.le_of_ble_eq_true rfl, Nat.le_of_ble_eq_true rfl⟩ rfl rfl dL_boards_5 hΦ fun ce q9 H1 locs1 h1 h2 h3 g1 g2 g3 => ?_
      refine w_catch1 C (by decide) w_cl_L_24 (by decide) (by decide) g1 g2 g3 ?_
      refine lv_astore hx hb dL_boards_13 hl (by decide) rfl (fun ls hl => ?_)
      exact w_no C h3 h1 h2 (if_neg (by decide)) (by decide) (by decide) (by decide) dL_boards_15 dL_boards_16
    · cases List.mem_singleton.mp hA1
      refine w_cTX (As := [.int a1, .int a2]) C hT hW hO hl.1 (t_X10_boards l D A1 b G q hT hst a1 a2 u h) mv_L_90 ⟨Nat.le_of_ble_eq_true rfl, Nat.le_of_ble_eq_true rfl⟩ rfl rfl dL_boards_5 hΦ fun ce q9 H1 locs1 h1 h2 h3 g1 g2 g3 => ?_
      refine w_catch2 (N1 := "java/lang/IndexOutOfBoundsException") C (by decide) (by decide) w_cl_L_24 w_cl_L_13 (by decide) (by decide) (by decide) (by decide) g1 g2 g3 ?_
      refine lv_astore hx hb dL_boards_17 hl (by decide) rfl (fun ls hl => ?_)
      exact w_no C h3 h1 h2 (if_neg (by decide)) (by decide) (by decide) (by decide) dL_boards_19 dL_boards_20
theorem c_L_ruled (l : Launch) (hst : l.stackTraces = false) (D : zD) (A1 : Nat → Prop) (b ob : Nat) (dJ : ClassId) (G : zG) (q : zq) (hT : zTop G q) (a1 : Int32) (a2 : Int32) (u : zU) {o : String ⊕ Int32} {q' : zq} {u' : zU} (h : f_X10_ruled q a1 a2 u = some (o, q', u')) {x t : Int32} (hA : ANS [("java/lang/IndexOutOfBoundsException", 1), ("java/lang/IllegalArgumentException", 2)] o x t) {Φ : zG → zq → zU → Prop} (hΦ : Φ G q' u') : wM l D A1 b ob dJ yL_ruled cL_ruled 5 [(0, 10, 13, 24), (0, 10, 17, 13)] [.ref (b + 0), .int a1, .int a2, .ref ob] G q u t (if t = 0 then some x else none) Φ := by
  refine w_enter (by decide) (Nat.le_of_ble_eq_true rfl) ?_
  intro p e s m below meth c ls C hW hO hl
  have hl : lv_has ls 5 [(0, .ref (b + 0)), (1, .int a1), (2, .int a2), (3, .ref ob)] := hl
  have hx := C.1.1
  have hb := C.1.2.1
  refine lv_aload_n hx hb dL_ruled_0 rfl (lv_at hl 3 rfl) ?_
  refine lv_iconst (v := (0 : Int32)) hx hb dL_ruled_1 (by decide) ?_
  refine lv_aload_n hx hb dL_ruled_2 rfl (lv_at hl 0 rfl) ?_
  refine lv_iload_n hx hb dL_ruled_3 rfl (lv_at hl 1 rfl) ?_
  refine lv_iload_n hx hb dL_ruled_4 rfl (lv_at hl 2 rfl) ?_
  cases o with
  | inr v =>
    obtain ⟨rfl, rfl⟩ := hA
    refine w_cMT (As := [.int a1, .int a2]) (v := v) C hT hW hO hl.1 (c_X10_ruled l D A1 b G q hT a1 a2 u h) mv_L_93 ⟨Nat.le_of_ble_eq_true rfl, Nat.le_of_ble_eq_true rfl⟩ rfl rfl dL_ruled_5 hΦ fun H1 locs1 h1 h2 h3 => ?_
    exact w_ok C h3 h1 h2 rfl (fun w hw => by rw [if_pos rfl] at hw; exact (Option.some.inj hw).symm) (Nat.zero_le _) (Nat.zero_le _) dL_ruled_8 dL_ruled_9 dL_ruled_10 rfl dL_ruled_21 dL_ruled_22
  | inl E =>
    have hA : (E, t) ∈ [("java/lang/IndexOutOfBoundsException", 1), ("java/lang/IllegalArgumentException", 2)] := hA
    rcases List.mem_cons.mp hA with hA1 | hA1
    · cases hA1
      refine w_cTX (As := [.int a1, .int a2]) C hT hW hO hl.1 (t_X10_ruled l D A1 b G q hT hst a1 a2 u h) mv_L_93 ⟨Nat.le_of_ble_eq_true rfl, Nat.le_of_ble_eq_true rfl⟩ rfl rfl dL_ruled_5 hΦ fun ce q9 H1 locs1 h1 h2 h3 g1 g2 g3 => ?_
      refine w_catch1 C (by decide) w_cl_L_24 (by decide) (by decide) g1 g2 g3 ?_
      refine lv_astore hx hb dL_ruled_13 hl (by decide) rfl (fun ls hl => ?_)
      exact w_no C h3 h1 h2 (if_neg (by decide)) (by decide) (by decide) (by decide) dL_ruled_15 dL_ruled_16
    · cases List.mem_singleton.mp hA1
      refine w_cTX (As := [.int a1, .int a2]) C hT hW hO hl.1 (t_X10_ruled l D A1 b G q hT hst a1 a2 u h) mv_L_93 ⟨Nat.le_of_ble_eq_true rfl, Nat.le_of_ble_eq_true rfl⟩ rfl rfl dL_ruled_5 hΦ fun ce q9 H1 locs1 h1 h2 h3 g1 g2 g3 => ?_
      refine w_catch2 (N1 := "java/lang/IndexOutOfBoundsException") C (by decide) (by decide) w_cl_L_24 w_cl_L_13 (by decide) (by decide) (by decide) (by decide) g1 g2 g3 ?_
      refine lv_astore hx hb dL_ruled_17 hl (by decide) rfl (fun ls hl => ?_)
      exact w_no C h3 h1 h2 (if_neg (by decide)) (by decide) (by decide) (by decide) dL_ruled_19 dL_ruled_20
theorem c_L_round (l : Launch) (hst : l.stackTraces = false) (D : zD) (A1 : Nat → Prop) (b ob : Nat) (dJ : ClassId) (G : zG) (q : zq) (hT : zTop G q) (a1 : Int32) (u : zU) {o : String ⊕ Int32} {q' : zq} {u' : zU} (h : f_X10_round q a1 u = some (o, q', u')) {x t : Int32} (hA : ANS [("java/lang/IllegalArgumentException", 1)] o x t) {Φ : zG → zq → zU → Prop} (hΦ : Φ G q' u') : wM l D A1 b ob dJ yL_round cL_round 4 [(0, 9, 12, 13)] [.ref (b + 0), .int a1, .ref ob] G q u t (if t = 0 then some x else none) Φ := by
  refine w_enter (by decide) (Nat.le_of_ble_eq_true rfl) ?_
  intro p e s m below meth c ls C hW hO hl
  have hl : lv_has ls 4 [(0, .ref (b + 0)), (1, .int a1), (2, .ref ob)] := hl
  have hx := C.1.1
  have hb := C.1.2.1
  refine lv_aload_n hx hb dL_round_0 rfl (lv_at hl 2 rfl) ?_
  refine lv_iconst (v := (0 : Int32)) hx hb dL_round_1 (by decide) ?_
  refine lv_aload_n hx hb dL_round_2 rfl (lv_at hl 0 rfl) ?_
  refine lv_iload_n hx hb dL_round_3 rfl (lv_at hl 1 rfl) ?_
  cases o with
  | inr v =>
    obtain ⟨rfl, rfl⟩ := hA
    refine w_cMT (As := [.int a1]) (v := v) C hT hW hO hl.1 (c_X10_round l D A1 b G q hT a1 u h) mv_L_96 ⟨Nat.le_of_ble_eq_true rfl, Nat.le_of_ble_eq_true rfl⟩ rfl rfl dL_round_4 hΦ fun H1 locs1 h1 h2 h3 => ?_
    exact w_ok C h3 h1 h2 rfl (fun w hw => by rw [if_pos rfl] at hw; exact (Option.some.inj hw).symm) (Nat.zero_le _) (Nat.zero_le _) dL_round_7 dL_round_8 dL_round_9 rfl dL_round_15 dL_round_16
  | inl E =>
    have hA : (E, t) ∈ [("java/lang/IllegalArgumentException", 1)] := hA
    rcases List.mem_singleton.mp hA with hA1
    cases hA1
    refine w_cTX (As := [.int a1]) C hT hW hO hl.1 (t_X10_round l D A1 b G q hT hst a1 u h) mv_L_96 ⟨Nat.le_of_ble_eq_true rfl, Nat.le_of_ble_eq_true rfl⟩ rfl rfl dL_round_4 hΦ fun ce q9 H1 locs1 h1 h2 h3 g1 g2 g3 => ?_
    refine w_catch1 C (by decide) w_cl_L_13 (by decide) (by decide) g1 g2 g3 ?_
    refine lv_astore_n hx hb dL_round_12 rfl hl (by decide) rfl (fun ls hl => ?_)
    exact w_no C h3 h1 h2 (if_neg (by decide)) (by decide) (by decide) (by decide) dL_round_13 dL_round_14
theorem c_L_ruin (l : Launch) (hst : l.stackTraces = false) (D : zD) (A1 : Nat → Prop) (b ob : Nat) (dJ : ClassId) (G : zG) (q : zq) (hT : zTop G q) (a1 : Int32) (a2 : Int32) (u : zU) {o : String ⊕ Int32} {q' : zq} {u' : zU} (h : f_X10_ruin q a1 a2 u = some (o, q', u')) {x t : Int32} (hA : ANS [("java/lang/IllegalArgumentException", 1)] o x t) {Φ : zG → zq → zU → Prop} (hΦ : Φ G q' u') : wM l D A1 b ob dJ yL_ruin cL_ruin 5 [(0, 10, 13, 13)] [.ref (b + 0), .int a1, .int a2, .ref ob] G q u t (if t = 0 then some x else none) Φ := by
  refine w_enter (by decide) (Nat.le_of_ble_eq_true rfl) ?_
  intro p e s m below meth c ls C hW hO hl
  have hl : lv_has ls 5 [(0, .ref (b + 0)), (1, .int a1), (2, .int a2), (3, .ref ob)] := hl
  have hx := C.1.1
  have hb := C.1.2.1
  refine lv_aload_n hx hb dL_ruin_0 rfl (lv_at hl 3 rfl) ?_
  refine lv_iconst (v := (0 : Int32)) hx hb dL_ruin_1 (by decide) ?_
  refine lv_aload_n hx hb dL_ruin_2 rfl (lv_at hl 0 rfl) ?_
  refine lv_iload_n hx hb dL_ruin_3 rfl (lv_at hl 1 rfl) ?_
  refine lv_iload_n hx hb dL_ruin_4 rfl (lv_at hl 2 rfl) ?_
  cases o with
  | inr v =>
    obtain ⟨rfl, rfl⟩ := hA
    refine w_cMT (As := [.int a1, .int a2]) (v := v) C hT hW hO hl.1 (c_X10_ruin l D A1 b G q hT a1 a2 u h) mv_L_99 ⟨Nat.le_of_ble_eq_true rfl, Nat.le_of_ble_eq_true rfl⟩ rfl rfl dL_ruin_5 hΦ fun H1 locs1 h1 h2 h3 => ?_
    exact w_ok C h3 h1 h2 rfl (fun w hw => by rw [if_pos rfl] at hw; exact (Option.some.inj hw).symm) (Nat.zero_le _) (Nat.zero_le _) dL_ruin_8 dL_ruin_9 dL_ruin_10 rfl dL_ruin_17 dL_ruin_18
  | inl E =>
    have hA : (E, t) ∈ [("java/lang/IllegalArgumentException", 1)] := hA
    rcases List.mem_singleton.mp hA with hA1
    cases hA1
    refine w_cTX (As := [.int a1, .int a2]) C hT hW hO hl.1 (t_X10_ruin l D A1 b G q hT hst a1 a2 u h) mv_L_99 ⟨Nat.le_of_ble_eq_true rfl, Nat.le_of_ble_eq_true rfl⟩ rfl rfl dL_ruin_5 hΦ fun ce q9 H1 locs1 h1 h2 h3 g1 g2 g3 => ?_
    refine w_catch1 C (by decide) w_cl_L_13 (by decide) (by decide) g1 g2 g3 ?_
    refine lv_astore hx hb dL_ruin_13 hl (by decide) rfl (fun ls hl => ?_)
    exact w_no C h3 h1 h2 (if_neg (by decide)) (by decide) (by decide) (by decide) dL_ruin_15 dL_ruin_16
theorem c_L_ahead (l : Launch) (hst : l.stackTraces = false) (D : zD) (A1 : Nat → Prop) (b ob : Nat) (dJ : ClassId) (G : zG) (q : zq) (hT : zTop G q) (a1 : Int32) (a2 : Int32) (a3 : Int32) (u : zU) {o : String ⊕ Int32} {q' : zq} {u' : zU} (h : f_X10_ahead q a1 a2 a3 u = some (o, q', u')) {x t : Int32} (hA : ANS [("java/lang/IllegalArgumentException", 1), ("java/util/NoSuchElementException", 2)] o x t) {Φ : zG → zq → zU → Prop} (hΦ : Φ G q' u') : wM l D A1 b ob dJ yL_ahead cL_ahead 6 [(0, 12, 15, 13), (0, 12, 19, 26)] [.ref (b + 0), .int a1, .int a2, .int a3, .ref ob] G q u t (if t = 0 then some x else none) Φ := by
  refine w_enter (by decide) (Nat.le_of_ble_eq_true rfl) ?_
  intro p e s m below meth c ls C hW hO hl
  have hl : lv_has ls 6 [(0, .ref (b + 0)), (1, .int a1), (2, .int a2), (3, .int a3), (4, .ref ob)] := hl
  have hx := C.1.1
  have hb := C.1.2.1
  refine lv_aload hx hb dL_ahead_0 (lv_at hl 4 rfl) ?_
  refine lv_iconst (v := (0 : Int32)) hx hb dL_ahead_2 (by decide) ?_
  refine lv_aload_n hx hb dL_ahead_3 rfl (lv_at hl 0 rfl) ?_
  refine lv_iload_n hx hb dL_ahead_4 rfl (lv_at hl 1 rfl) ?_
  refine lv_iload_n hx hb dL_ahead_5 rfl (lv_at hl 2 rfl) ?_
  refine lv_iload_n hx hb dL_ahead_6 rfl (lv_at hl 3 rfl) ?_
  cases o with
  | inr v =>
    obtain ⟨rfl, rfl⟩ := hA
    refine w_cMT (As := [.int a1, .int a2, .int a3]) (v := v) C hT hW hO hl.1 (c_X10_ahead l D A1 b G q hT a1 a2 a3 u h) mv_L_102 ⟨Nat.le_of_ble_eq_true rfl, Nat.le_of_ble_eq_true rfl⟩ rfl rfl dL_ahead_7 hΦ fun H1 locs1 h1 h2 h3 => ?_
    exact w_ok C h3 h1 h2 rfl (fun w hw => by rw [if_pos rfl] at hw; exact (Option.some.inj hw).symm) (Nat.zero_le _) (Nat.zero_le _) dL_ahead_10 dL_ahead_11 dL_ahead_12 rfl dL_ahead_23 dL_ahead_24
  | inl E =>
    have hA : (E, t) ∈ [("java/lang/IllegalArgumentException", 1), ("java/util/NoSuchElementException", 2)] := hA
    rcases List.mem_cons.mp hA with hA1 | hA1
    · cases hA1
      refine w_cTX (As := [.int a1, .int a2, .int a3]) C hT hW hO hl.1 (t_X10_ahead l D A1 b G q hT hst a1 a2 a3 u h) mv_L_102 ⟨Nat.le_of_ble_eq_true rfl, Nat.le_of_ble_eq_true rfl⟩ rfl rfl dL_ahead_7 hΦ fun ce q9 H1 locs1 h1 h2 h3 g1 g2 g3 => ?_
      refine w_catch1 C (by decide) w_cl_L_13 (by decide) (by decide) g1 g2 g3 ?_
      refine lv_astore hx hb dL_ahead_15 hl (by decide) rfl (fun ls hl => ?_)
      exact w_no C h3 h1 h2 (if_neg (by decide)) (by decide) (by decide) (by decide) dL_ahead_17 dL_ahead_18
    · cases List.mem_singleton.mp hA1
      refine w_cTX (As := [.int a1, .int a2, .int a3]) C hT hW hO hl.1 (t_X10_ahead l D A1 b G q hT hst a1 a2 a3 u h) mv_L_102 ⟨Nat.le_of_ble_eq_true rfl, Nat.le_of_ble_eq_true rfl⟩ rfl rfl dL_ahead_7 hΦ fun ce q9 H1 locs1 h1 h2 h3 g1 g2 g3 => ?_
      refine w_catch2 (N1 := "java/lang/IllegalArgumentException") C (by decide) (by decide) w_cl_L_13 w_cl_L_26 (by decide) (by decide) (by decide) (by decide) g1 g2 g3 ?_
      refine lv_astore hx hb dL_ahead_19 hl (by decide) rfl (fun ls hl => ?_)
      exact w_no C h3 h1 h2 (if_neg (by decide)) (by decide) (by decide) (by decide) dL_ahead_21 dL_ahead_22
theorem c_L_trial (l : Launch) (hst : l.stackTraces = false) (D : zD) (A1 : Nat → Prop) (b ob : Nat) (dJ : ClassId) (G : zG) (q : zq) (hT : zTop G q) (a1 : Int32) (a2 : Bool) (u : zU) {o : String ⊕ Int32} {q' : zq} {u' : zU} (h : f_X10_trial q a1 a2 u = some (o, q', u')) {x t : Int32} (hA : ANS [("java/lang/IllegalArgumentException", 1)] o x t) {Φ : zG → zq → zU → Prop} (hΦ : Φ G q' u') : wM l D A1 b ob dJ yL_trial cL_trial 5 [(0, 10, 13, 13)] [.ref (b + 0), .int a1, .int (bI a2), .ref ob] G q u t (if t = 0 then some x else none) Φ := by
  refine w_enter (by decide) (Nat.le_of_ble_eq_true rfl) ?_
  intro p e s m below meth c ls C hW hO hl
  have hl : lv_has ls 5 [(0, .ref (b + 0)), (1, .int a1), (2, .int (bI a2)), (3, .ref ob)] := hl
  have hx := C.1.1
  have hb := C.1.2.1
  refine lv_aload_n hx hb dL_trial_0 rfl (lv_at hl 3 rfl) ?_
  refine lv_iconst (v := (0 : Int32)) hx hb dL_trial_1 (by decide) ?_
  refine lv_aload_n hx hb dL_trial_2 rfl (lv_at hl 0 rfl) ?_
  refine lv_iload_n hx hb dL_trial_3 rfl (lv_at hl 1 rfl) ?_
  refine lv_iload_n hx hb dL_trial_4 rfl (lv_at hl 2 rfl) ?_
  cases o with
  | inr v =>
    obtain ⟨rfl, rfl⟩ := hA
    refine w_cMT (As := [.int a1, .int (bI a2)]) (v := v) C hT hW hO hl.1 (c_X10_trial l D A1 b G q hT a1 a2 u h) mv_L_106 ⟨Nat.le_of_ble_eq_true rfl, Nat.le_of_ble_eq_true rfl⟩ rfl rfl dL_trial_5 hΦ fun H1 locs1 h1 h2 h3 => ?_
    exact w_ok C h3 h1 h2 rfl (fun w hw => by rw [if_pos rfl] at hw; exact (Option.some.inj hw).symm) (Nat.zero_le _) (Nat.zero_le _) dL_trial_8 dL_trial_9 dL_trial_10 rfl dL_trial_17 dL_trial_18
  | inl E =>
    have hA : (E, t) ∈ [("java/lang/IllegalArgumentException", 1)] := hA
    rcases List.mem_singleton.mp hA with hA1
    cases hA1
    refine w_cTX (As := [.int a1, .int (bI a2)]) C hT hW hO hl.1 (t_X10_trial l D A1 b G q hT hst a1 a2 u h) mv_L_106 ⟨Nat.le_of_ble_eq_true rfl, Nat.le_of_ble_eq_true rfl⟩ rfl rfl dL_trial_5 hΦ fun ce q9 H1 locs1 h1 h2 h3 g1 g2 g3 => ?_
    refine w_catch1 C (by decide) w_cl_L_13 (by decide) (by decide) g1 g2 g3 ?_
    refine lv_astore hx hb dL_trial_13 hl (by decide) rfl (fun ls hl => ?_)
    exact w_no C h3 h1 h2 (if_neg (by decide)) (by decide) (by decide) (by decide) dL_trial_15 dL_trial_16
theorem c_L_span (l : Launch) (hst : l.stackTraces = false) (D : zD) (A1 : Nat → Prop) (b ob : Nat) (dJ : ClassId) (G : zG) (q : zq) (hT : zTop G q) (a1 : Int32) (a2 : Bool) (u : zU) {o : String ⊕ Int32} {q' : zq} {u' : zU} (h : f_X10_span q a1 a2 u = some (o, q', u')) {x t : Int32} (hA : ANS [("java/lang/IllegalArgumentException", 1)] o x t) {Φ : zG → zq → zU → Prop} (hΦ : Φ G q' u') : wM l D A1 b ob dJ yL_span cL_span 5 [(0, 10, 13, 13)] [.ref (b + 0), .int a1, .int (bI a2), .ref ob] G q u t (if t = 0 then some x else none) Φ := by
  refine w_enter (by decide) (Nat.le_of_ble_eq_true rfl) ?_
  intro p e s m below meth c ls C hW hO hl
  have hl : lv_has ls 5 [(0, .ref (b + 0)), (1, .int a1), (2, .int (bI a2)), (3, .ref ob)] := hl
  have hx := C.1.1
  have hb := C.1.2.1
  refine lv_aload_n hx hb dL_span_0 rfl (lv_at hl 3 rfl) ?_
  refine lv_iconst (v := (0 : Int32)) hx hb dL_span_1 (by decide) ?_
  refine lv_aload_n hx hb dL_span_2 rfl (lv_at hl 0 rfl) ?_
  refine lv_iload_n hx hb dL_span_3 rfl (lv_at hl 1 rfl) ?_
  refine lv_iload_n hx hb dL_span_4 rfl (lv_at hl 2 rfl) ?_
  cases o with
  | inr v =>
    obtain ⟨rfl, rfl⟩ := hA
    refine w_cMT (As := [.int a1, .int (bI a2)]) (v := v) C hT hW hO hl.1 (c_X10_span l D A1 b G q hT a1 a2 u h) mv_L_109 ⟨Nat.le_of_ble_eq_true rfl, Nat.le_of_ble_eq_true rfl⟩ rfl rfl dL_span_5 hΦ fun H1 locs1 h1 h2 h3 => ?_
    exact w_ok C h3 h1 h2 rfl (fun w hw => by rw [if_pos rfl] at hw; exact (Option.some.inj hw).symm) (Nat.zero_le _) (Nat.zero_le _) dL_span_8 dL_span_9 dL_span_10 rfl dL_span_17 dL_span_18
  | inl E =>
    have hA : (E, t) ∈ [("java/lang/IllegalArgumentException", 1)] := hA
    rcases List.mem_singleton.mp hA with hA1
    cases hA1
    refine w_cTX (As := [.int a1, .int (bI a2)]) C hT hW hO hl.1 (t_X10_span l D A1 b G q hT hst a1 a2 u h) mv_L_109 ⟨Nat.le_of_ble_eq_true rfl, Nat.le_of_ble_eq_true rfl⟩ rfl rfl dL_span_5 hΦ fun ce q9 H1 locs1 h1 h2 h3 g1 g2 g3 => ?_
    refine w_catch1 C (by decide) w_cl_L_13 (by decide) (by decide) g1 g2 g3 ?_
    refine lv_astore hx hb dL_span_13 hl (by decide) rfl (fun ls hl => ?_)
    exact w_no C h3 h1 h2 (if_neg (by decide)) (by decide) (by decide) (by decide) dL_span_15 dL_span_16
theorem c_L_led (l : Launch) (hst : l.stackTraces = false) (D : zD) (A1 : Nat → Prop) (b ob : Nat) (dJ : ClassId) (G : zG) (q : zq) (hT : zTop G q) (a1 : Int32) (a2 : Bool) (u : zU) {o : String ⊕ Int32} {q' : zq} {u' : zU} (h : f_X10_led q a1 a2 u = some (o, q', u')) {x t : Int32} (hA : ANS [("java/lang/IndexOutOfBoundsException", 1)] o x t) {Φ : zG → zq → zU → Prop} (hΦ : Φ G q' u') : wM l D A1 b ob dJ yL_led cL_led 5 [(0, 10, 13, 24)] [.ref (b + 0), .int a1, .int (bI a2), .ref ob] G q u t (if t = 0 then some x else none) Φ := by
  refine w_enter (by decide) (Nat.le_of_ble_eq_true rfl) ?_
  intro p e s m below meth c ls C hW hO hl
  have hl : lv_has ls 5 [(0, .ref (b + 0)), (1, .int a1), (2, .int (bI a2)), (3, .ref ob)] := hl
  have hx := C.1.1
  have hb := C.1.2.1
  refine lv_aload_n hx hb dL_led_0 rfl (lv_at hl 3 rfl) ?_
  refine lv_iconst (v := (0 : Int32)) hx hb dL_led_1 (by decide) ?_
  refine lv_aload_n hx hb dL_led_2 rfl (lv_at hl 0 rfl) ?_
  refine lv_iload_n hx hb dL_led_3 rfl (lv_at hl 1 rfl) ?_
  refine lv_iload_n hx hb dL_led_4 rfl (lv_at hl 2 rfl) ?_
  cases o with
  | inr v =>
    obtain ⟨rfl, rfl⟩ := hA
    refine w_cMT (As := [.int a1, .int (bI a2)]) (v := v) C hT hW hO hl.1 (c_X10_led l D A1 b G q hT a1 a2 u h) mv_L_112 ⟨Nat.le_of_ble_eq_true rfl, Nat.le_of_ble_eq_true rfl⟩ rfl rfl dL_led_5 hΦ fun H1 locs1 h1 h2 h3 => ?_
    exact w_ok C h3 h1 h2 rfl (fun w hw => by rw [if_pos rfl] at hw; exact (Option.some.inj hw).symm) (Nat.zero_le _) (Nat.zero_le _) dL_led_8 dL_led_9 dL_led_10 rfl dL_led_17 dL_led_18
  | inl E =>
    have hA : (E, t) ∈ [("java/lang/IndexOutOfBoundsException", 1)] := hA
    rcases List.mem_singleton.mp hA with hA1
    cases hA1
    refine w_cTX (As := [.int a1, .int (bI a2)]) C hT hW hO hl.1 (t_X10_led l D A1 b G q hT hst a1 a2 u h) mv_L_112 ⟨Nat.le_of_ble_eq_true rfl, Nat.le_of_ble_eq_true rfl⟩ rfl rfl dL_led_5 hΦ fun ce q9 H1 locs1 h1 h2 h3 g1 g2 g3 => ?_
    refine w_catch1 C (by decide) w_cl_L_24 (by decide) (by decide) g1 g2 g3 ?_
    refine lv_astore hx hb dL_led_13 hl (by decide) rfl (fun ls hl => ?_)
    exact w_no C h3 h1 h2 (if_neg (by decide)) (by decide) (by decide) (by decide) dL_led_15 dL_led_16
theorem c_L_log (l : Launch) (hst : l.stackTraces = false) (D : zD) (A1 : Nat → Prop) (b ob : Nat) (dJ : ClassId) (G : zG) (q : zq) (hT : zTop G q) (a1 : Int32) (a2 : Int32) (u : zU) {o : String ⊕ Int32} {q' : zq} {u' : zU} (h : f_X10_log q a1 a2 u = some (o, q', u')) {x t : Int32} (hA : ANS [("java/util/NoSuchElementException", 1)] o x t) {Φ : zG → zq → zU → Prop} (hΦ : Φ G q' u') : wM l D A1 b ob dJ yL_log cL_log 5 [(0, 10, 13, 26)] [.ref (b + 0), .int a1, .int a2, .ref ob] G q u t (if t = 0 then some x else none) Φ := by
  refine w_enter (by decide) (Nat.le_of_ble_eq_true rfl) ?_
  intro p e s m below meth c ls C hW hO hl
  have hl : lv_has ls 5 [(0, .ref (b + 0)), (1, .int a1), (2, .int a2), (3, .ref ob)] := hl
  have hx := C.1.1
  have hb := C.1.2.1
  refine lv_aload_n hx hb dL_log_0 rfl (lv_at hl 3 rfl) ?_
  refine lv_iconst (v := (0 : Int32)) hx hb dL_log_1 (by decide) ?_
  refine lv_aload_n hx hb dL_log_2 rfl (lv_at hl 0 rfl) ?_
  refine lv_iload_n hx hb dL_log_3 rfl (lv_at hl 1 rfl) ?_
  refine lv_iload_n hx hb dL_log_4 rfl (lv_at hl 2 rfl) ?_
  cases o with
  | inr v =>
    obtain ⟨rfl, rfl⟩ := hA
    refine w_cMT (As := [.int a1, .int a2]) (v := v) C hT hW hO hl.1 (c_X10_log l D A1 b G q hT a1 a2 u h) mv_L_115 ⟨Nat.le_of_ble_eq_true rfl, Nat.le_of_ble_eq_true rfl⟩ rfl rfl dL_log_5 hΦ fun H1 locs1 h1 h2 h3 => ?_
    exact w_ok C h3 h1 h2 rfl (fun w hw => by rw [if_pos rfl] at hw; exact (Option.some.inj hw).symm) (Nat.zero_le _) (Nat.zero_le _) dL_log_8 dL_log_9 dL_log_10 rfl dL_log_17 dL_log_18
  | inl E =>
    have hA : (E, t) ∈ [("java/util/NoSuchElementException", 1)] := hA
    rcases List.mem_singleton.mp hA with hA1
    cases hA1
    refine w_cTX (As := [.int a1, .int a2]) C hT hW hO hl.1 (t_X10_log l D A1 b G q hT hst a1 a2 u h) mv_L_115 ⟨Nat.le_of_ble_eq_true rfl, Nat.le_of_ble_eq_true rfl⟩ rfl rfl dL_log_5 hΦ fun ce q9 H1 locs1 h1 h2 h3 g1 g2 g3 => ?_
    refine w_catch1 C (by decide) w_cl_L_26 (by decide) (by decide) g1 g2 g3 ?_
    refine lv_astore hx hb dL_log_13 hl (by decide) rfl (fun ls hl => ?_)
    exact w_no C h3 h1 h2 (if_neg (by decide)) (by decide) (by decide) (by decide) dL_log_15 dL_log_16
