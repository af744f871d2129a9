def f_X10_needRider (q : zq) (a1 : Int32) (u : zU) : Option ((String ⊕ Unit) × zq × zU) :=
  if a1 < 0 then (some (.inl "java/lang/IndexOutOfBoundsException", q, u)) else (if a1 < (u 6 8) then (some (.inr (), q, u)) else (some (.inl "java/lang/IndexOutOfBoundsException", q, u)))
theorem f_X10_needRider_e (q : zq) (a1 : Int32) (u : zU) : f_X10_needRider q a1 u = if a1 < 0 then (some (.inl "java/lang/IndexOutOfBoundsException", q, u)) else (if a1 < (u 6 8) then (some (.inr (), q, u)) else (some (.inl "java/lang/IndexOutOfBoundsException", q, u))) := rfl
set_option maxRecDepth 100000 in
set_option maxHeartbeats 4000000 in
theorem c_X10_needRider (l : Launch) (D : zD) (A : Nat → Prop) (b : Nat) (G : zG) (q : zq) (hT : zTop G q) (a1 : Int32) (u : zU) {q' : zq} {u' : zU} (h : f_X10_needRider q a1 u = some (.inr (), q', u')) : z_MT l D A b G yX10_needRider cX10_needRider 2 none 6 90 [.ref (b + 0), .int a1] q u none q' u' := by
  refine z_enterT (by decide) (Nat.le_of_ble_eq_true rfl) ?_
  intro p e s m below meth c ls C0 hr hml hlk hW hS hl
  have hl : lv_has ls 2 [(0, .ref (b + 0)), (1, .int a1)] := hl
  have hx := C0.1
  have hb := C0.2.1
  have hs := hT.1
  rw [f_X10_needRider_e] at h
  refine lv_iload_n hx hb dX10_needRider_0 rfl (lv_at hl 1 rfl) ?_
  refine lv_if_lt (tgt := 15) hx hb dX10_needRider_1 (by decide) (fun hc => ?_) (fun hc => ?_)
  · replace h := z_t h hc
    clear hc
    cases h
  · replace h := z_f h hc
    clear hc
    refine lv_iload_n hx hb dX10_needRider_4 rfl (lv_at hl 1 rfl) ?_
    refine lv_aload_n hx hb dX10_needRider_5 rfl (lv_at hl 0 rfl) ?_
    refine z_getr (o := 6) C0 hW fl_X10_28 (zk1 (hs 0 (by decide))) rfl (zk3 (hs 0 (by decide)) 2) dX10_needRider_6 ?_
    refine z_geti C0 hW fl_X10_221 (zT0 hT).1 rfl dX10_needRider_9 ?_
    refine lv_icmp_lt (tgt := 26) hx hb dX10_needRider_12 (by decide) (fun hc => ?_) (fun hc => ?_)
    · replace h := z_t h hc
      clear hc
      cases h
      exact z_vretT C0 hr hlk hW hS hT dX10_needRider_26
    · replace h := z_f h hc
      clear hc
      cases h
set_option maxRecDepth 100000 in
set_option maxHeartbeats 4000000 in
theorem t_X10_needRider (l : Launch) (D : zD) (A : Nat → Prop) (b : Nat) (G : zG) (q : zq) (hT : zTop G q) (hst : l.stackTraces = false) (a1 : Int32) (u : zU) {E : String} {q' : zq} {u' : zU} (h : f_X10_needRider q a1 u = some (.inl E, q', u')) : z_TX l D A b G yX10_needRider cX10_needRider 2 none 6 90 [.ref (b + 0), .int a1] q u E q' u' := by
  refine z_enterX (by decide) (Nat.le_of_ble_eq_true rfl) ?_
  intro p e s m below meth c ls C0 hex hml hlk hW hS hl
  have hl : lv_has ls 2 [(0, .ref (b + 0)), (1, .int a1)] := hl
  have hx := C0.1
  have hb := C0.2.1
  have hs := hT.1
  rw [f_X10_needRider_e] at h
  refine lv_iload_n hx hb dX10_needRider_0 rfl (lv_at hl 1 rfl) ?_
  refine lv_if_lt (tgt := 15) hx hb dX10_needRider_1 (by decide) (fun hc => ?_) (fun hc => ?_)
  · replace h := z_t h hc
    clear hc
    cases h
    exact z_thrW (k := 14) (tx := "there is no such rider") C0 hst hml hl.1 hW hS hT hex hlk tw_426_430 (List.mem_of_getElem? (i := 14) rfl) ⟨Nat.le_of_ble_eq_true rfl, Nat.le_of_ble_eq_true rfl⟩ ⟨Nat.le_of_ble_eq_true rfl, Nat.le_of_ble_eq_true rfl⟩ dX10_needRider_15 dX10_needRider_18 dX10_needRider_19 dX10_needRider_22 dX10_needRider_25
  · replace h := z_f h hc
    clear hc
    refine lv_iload_n hx hb dX10_needRider_4 rfl (lv_at hl 1 rfl) ?_
    refine lv_aload_n hx hb dX10_needRider_5 rfl (lv_at hl 0 rfl) ?_
    refine z_getr (o := 6) C0 hW fl_X10_28 (zk1 (hs 0 (by decide))) rfl (zk3 (hs 0 (by decide)) 2) dX10_needRider_6 ?_
    refine z_geti C0 hW fl_X10_221 (zT0 hT).1 rfl dX10_needRider_9 ?_
    refine lv_icmp_lt (tgt := 26) hx hb dX10_needRider_12 (by decide) (fun hc => ?_) (fun hc => ?_)
    · replace h := z_t h hc
      clear hc
      cases h
    · replace h := z_f h hc
      clear hc
      cases h
      exact z_thrW (k := 14) (tx := "there is no such rider") C0 hst hml hl.1 hW hS hT hex hlk tw_426_430 (List.mem_of_getElem? (i := 14) rfl) ⟨Nat.le_of_ble_eq_true rfl, Nat.le_of_ble_eq_true rfl⟩ ⟨Nat.le_of_ble_eq_true rfl, Nat.le_of_ble_eq_true rfl⟩ dX10_needRider_15 dX10_needRider_18 dX10_needRider_19 dX10_needRider_22 dX10_needRider_25
def f_X10_needCradle (q : zq) (a0 : Int32) (u : zU) : Option ((String ⊕ Unit) × zq × zU) :=
  if a0 < 0 then (some (.inl "java/lang/IndexOutOfBoundsException", q, u)) else (if a0 < (8 : Int32) then (some (.inr (), q, u)) else (some (.inl "java/lang/IndexOutOfBoundsException", q, u)))
theorem f_X10_needCradle_e (q : zq) (a0 : Int32) (u : zU) : f_X10_needCradle q a0 u = if a0 < 0 then (some (.inl "java/lang/IndexOutOfBoundsException", q, u)) else (if a0 < (8 : Int32) then (some (.inr (), q, u)) else (some (.inl "java/lang/IndexOutOfBoundsException", q, u))) := rfl
set_option maxRecDepth 100000 in
set_option maxHeartbeats 4000000 in
theorem c_X10_needCradle (l : Launch) (D : zD) (A : Nat → Prop) (b : Nat) (G : zG) (q : zq) (hT : zTop G q) (a0 : Int32) (u : zU) {q' : zq} {u' : zU} (h : f_X10_needCradle q a0 u = some (.inr (), q', u')) : z_MT l D A b G yX10_needCradle cX10_needCradle 1 none 6 90 [.int a0] q u none q' u' := by
  refine z_enterT (by decide) (Nat.le_of_ble_eq_true rfl) ?_
  intro p e s m below meth c ls C0 hr hml hlk hW hS hl
  have hl : lv_has ls 1 [(0, .int a0)] := hl
  have hx := C0.1
  have hb := C0.2.1
  have hs := hT.1
  rw [f_X10_needCradle_e] at h
  refine lv_iload_n hx hb dX10_needCradle_0 rfl (lv_at hl 0 rfl) ?_
  refine lv_if_lt (tgt := 10) hx hb dX10_needCradle_1 (by decide) (fun hc => ?_) (fun hc => ?_)
  · replace h := z_t h hc
    clear hc
    cases h
  · replace h := z_f h hc
    clear hc
    refine lv_iload_n hx hb dX10_needCradle_4 rfl (lv_at hl 0 rfl) ?_
    refine lv_bipush (v := (8 : Int32)) hx hb dX10_needCradle_5 (by decide) ?_
    refine lv_icmp_lt (tgt := 21) hx hb dX10_needCradle_7 (by decide) (fun hc => ?_) (fun hc => ?_)
    · replace h := z_t h hc
      clear hc
      cases h
      exact z_vretT C0 hr hlk hW hS hT dX10_needCradle_21
    · replace h := z_f h hc
      clear hc
      cases h
set_option maxRecDepth 100000 in
set_option maxHeartbeats 4000000 in
theorem t_X10_needCradle (l : Launch) (D : zD) (A : Nat → Prop) (b : Nat) (G : zG) (q : zq) (hT : zTop G q) (hst : l.stackTraces = false) (a0 : Int32) (u : zU) {E : String} {q' : zq} {u' : zU} (h : f_X10_needCradle q a0 u = some (.inl E, q', u')) : z_TX l D A b G yX10_needCradle cX10_needCradle 1 none 6 90 [.int a0] q u E q' u' := by
  refine z_enterX (by decide) (Nat.le_of_ble_eq_true rfl) ?_
  intro p e s m below meth c ls C0 hex hml hlk hW hS hl
  have hl : lv_has ls 1 [(0, .int a0)] := hl
  have hx := C0.1
  have hb := C0.2.1
  have hs := hT.1
  rw [f_X10_needCradle_e] at h
  refine lv_iload_n hx hb dX10_needCradle_0 rfl (lv_at hl 0 rfl) ?_
  refine lv_if_lt (tgt := 10) hx hb dX10_needCradle_1 (by decide) (fun hc => ?_) (fun hc => ?_)
  · replace h := z_t h hc
    clear hc
    cases h
    exact z_thrW (k := 15) (tx := "there is no such cradle") C0 hst hml hl.1 hW hS hT hex hlk tw_426_430 (List.mem_of_getElem? (i := 15) rfl) ⟨Nat.le_of_ble_eq_true rfl, Nat.le_of_ble_eq_true rfl⟩ ⟨Nat.le_of_ble_eq_true rfl, Nat.le_of_ble_eq_true rfl⟩ dX10_needCradle_10 dX10_needCradle_13 dX10_needCradle_14 dX10_needCradle_17 dX10_needCradle_20
  · replace h := z_f h hc
    clear hc
    refine lv_iload_n hx hb dX10_needCradle_4 rfl (lv_at hl 0 rfl) ?_
    refine lv_bipush (v := (8 : Int32)) hx hb dX10_needCradle_5 (by decide) ?_
    refine lv_icmp_lt (tgt := 21) hx hb dX10_needCradle_7 (by decide) (fun hc => ?_) (fun hc => ?_)
    · replace h := z_t h hc
      clear hc
      cases h
    · replace h := z_f h hc
      clear hc
      cases h
      exact z_thrW (k := 15) (tx := "there is no such cradle") C0 hst hml hl.1 hW hS hT hex hlk tw_426_430 (List.mem_of_getElem? (i := 15) rfl) ⟨Nat.le_of_ble_eq_true rfl, Nat.le_of_ble_eq_true rfl⟩ ⟨Nat.le_of_ble_eq_true rfl, Nat.le_of_ble_eq_true rfl⟩ dX10_needCradle_10 dX10_needCradle_13 dX10_needCradle_14 dX10_needCradle_17 dX10_needCradle_20
def f_X10_needParty (q : zq) (a0 : Int32) (u : zU) : Option ((String ⊕ Unit) × zq × zU) :=
  if a0 < 0 then (some (.inl "java/lang/IndexOutOfBoundsException", q, u)) else (if a0 < (4 : Int32) then (some (.inr (), q, u)) else (some (.inl "java/lang/IndexOutOfBoundsException", q, u)))
theorem f_X10_needParty_e (q : zq) (a0 : Int32) (u : zU) : f_X10_needParty q a0 u = if a0 < 0 then (some (.inl "java/lang/IndexOutOfBoundsException", q, u)) else (if a0 < (4 : Int32) then (some (.inr (), q, u)) else (some (.inl "java/lang/IndexOutOfBoundsException", q, u))) := rfl
set_option maxRecDepth 100000 in
set_option maxHeartbeats 4000000 in
theorem c_X10_needParty (l : Launch) (D : zD) (A : Nat → Prop) (b : Nat) (G : zG) (q : zq) (hT : zTop G q) (a0 : Int32) (u : zU) {q' : zq} {u' : zU} (h : f_X10_needParty q a0 u = some (.inr (), q', u')) : z_MT l D A b G yX10_needParty cX10_needParty 1 none 6 90 [.int a0] q u none q' u' := by
  refine z_enterT (by decide) (Nat.le_of_ble_eq_true rfl) ?_
  intro p e s m below meth c ls C0 hr hml hlk hW hS hl
  have hl : lv_has ls 1 [(0, .int a0)] := hl
  have hx := C0.1
  have hb := C0.2.1
  have hs := hT.1
  rw [f_X10_needParty_e] at h
  refine lv_iload_n hx hb dX10_needParty_0 rfl (lv_at hl 0 rfl) ?_
  refine lv_if_lt (tgt := 9) hx hb dX10_needParty_1 (by decide) (fun hc => ?_) (fun hc => ?_)
  · replace h := z_t h hc
    clear hc
    cases h
  · replace h := z_f h hc
    clear hc
    refine lv_iload_n hx hb dX10_needParty_4 rfl (lv_at hl 0 rfl) ?_
    refine lv_iconst (v := (4 : Int32)) hx hb dX10_needParty_5 (by decide) ?_
    refine lv_icmp_lt (tgt := 20) hx hb dX10_needParty_6 (by decide) (fun hc => ?_) (fun hc => ?_)
    · replace h := z_t h hc
      clear hc
      cases h
      exact z_vretT C0 hr hlk hW hS hT dX10_needParty_20
    · replace h := z_f h hc
      clear hc
      cases h
set_option maxRecDepth 100000 in
set_option maxHeartbeats 4000000 in
theorem t_X10_needParty (l : Launch) (D : zD) (A : Nat → Prop) (b : Nat) (G : zG) (q : zq) (hT : zTop G q) (hst : l.stackTraces = false) (a0 : Int32) (u : zU) {E : String} {q' : zq} {u' : zU} (h : f_X10_needParty q a0 u = some (.inl E, q', u')) : z_TX l D A b G yX10_needParty cX10_needParty 1 none 6 90 [.int a0] q u E q' u' := by
  refine z_enterX (by decide) (Nat.le_of_ble_eq_true rfl) ?_
  intro p e s m below meth c ls C0 hex hml hlk hW hS hl
  have hl : lv_has ls 1 [(0, .int a0)] := hl
  have hx := C0.1
  have hb := C0.2.1
  have hs := hT.1
  rw [f_X10_needParty_e] at h
  refine lv_iload_n hx hb dX10_needParty_0 rfl (lv_at hl 0 rfl) ?_
  refine lv_if_lt (tgt := 9) hx hb dX10_needParty_1 (by decide) (fun hc => ?_) (fun hc => ?_)
  · replace h := z_t h hc
    clear hc
    cases h
    exact z_thrW (k := 16) (tx := "there is no such party") C0 hst hml hl.1 hW hS hT hex hlk tw_426_430 (List.mem_of_getElem? (i := 16) rfl) ⟨Nat.le_of_ble_eq_true rfl, Nat.le_of_ble_eq_true rfl⟩ ⟨Nat.le_of_ble_eq_true rfl, Nat.le_of_ble_eq_true rfl⟩ dX10_needParty_9 dX10_needParty_12 dX10_needParty_13 dX10_needParty_16 dX10_needParty_19
  · replace h := z_f h hc
    clear hc
    refine lv_iload_n hx hb dX10_needParty_4 rfl (lv_at hl 0 rfl) ?_
    refine lv_iconst (v := (4 : Int32)) hx hb dX10_needParty_5 (by decide) ?_
    refine lv_icmp_lt (tgt := 20) hx hb dX10_needParty_6 (by decide) (fun hc => ?_) (fun hc => ?_)
    · replace h := z_t h hc
      clear hc
      cases h
    · replace h := z_f h hc
      clear hc
      cases h
      exact z_thrW (k := 16) (tx := "there is no such party") C0 hst hml hl.1 hW hS hT hex hlk tw_426_430 (List.mem_of_getElem? (i := 16) rfl) ⟨Nat.le_of_ble_eq_true rfl, Nat.le_of_ble_eq_true rfl⟩ ⟨Nat.le_of_ble_eq_true rfl, Nat.le_of_ble_eq_true rfl⟩ dX10_needParty_9 dX10_needParty_12 dX10_needParty_13 dX10_needParty_16 dX10_needParty_19
def f_X10_needNumber (q : zq) (a0 : Int32) (a1 : Int32) (a2 : Int32) (u : zU) : Option ((String ⊕ Unit) × zq × zU) :=
  if a0 < a1 then (some (.inl "java/lang/IllegalArgumentException", q, u)) else (if a0 ≤ a2 then (some (.inr (), q, u)) else (some (.inl "java/lang/IllegalArgumentException", q, u)))
theorem f_X10_needNumber_e (q : zq) (a0 : Int32) (a1 : Int32) (a2 : Int32) (u : zU) : f_X10_needNumber q a0 a1 a2 u = if a0 < a1 then (some (.inl "java/lang/IllegalArgumentException", q, u)) else (if a0 ≤ a2 then (some (.inr (), q, u)) else (some (.inl "java/lang/IllegalArgumentException", q, u))) := rfl
set_option maxRecDepth 100000 in
set_option maxHeartbeats 4000000 in
theorem c_X10_needNumber (l : Launch) (D : zD) (A : Nat → Prop) (b : Nat) (G : zG) (q : zq) (hT : zTop G q) (a0 : Int32) (a1 : Int32) (a2 : Int32) (u : zU) {q' : zq} {u' : zU} (h : f_X10_needNumber q a0 a1 a2 u = some (.inr (), q', u')) : z_MT l D A b G yX10_needNumber cX10_needNumber 3 none 6 90 [.int a0, .int a1, .int a2] q u none q' u' := by
  refine z_enterT (by decide) (Nat.le_of_ble_eq_true rfl) ?_
  intro p e s m below meth c ls C0 hr hml hlk hW hS hl
  have hl : lv_has ls 3 [(0, .int a0), (1, .int a1), (2, .int a2)] := hl
  have hx := C0.1
  have hb := C0.2.1
  have hs := hT.1
  rw [f_X10_needNumber_e] at h
  refine lv_iload_n hx hb dX10_needNumber_0 rfl (lv_at hl 0 rfl) ?_
  refine lv_iload_n hx hb dX10_needNumber_1 rfl (lv_at hl 1 rfl) ?_
  refine lv_icmp_lt (tgt := 10) hx hb dX10_needNumber_2 (by decide) (fun hc => ?_) (fun hc => ?_)
  · replace h := z_t h hc
    clear hc
    cases h
  · replace h := z_f h hc
    clear hc
    refine lv_iload_n hx hb dX10_needNumber_5 rfl (lv_at hl 0 rfl) ?_
    refine lv_iload_n hx hb dX10_needNumber_6 rfl (lv_at hl 2 rfl) ?_
    refine lv_icmp_le (tgt := 21) hx hb dX10_needNumber_7 (by decide) (fun hc => ?_) (fun hc => ?_)
    · replace h := z_t h hc
      clear hc
      cases h
      exact z_vretT C0 hr hlk hW hS hT dX10_needNumber_21
    · replace h := z_f h hc
      clear hc
      cases h
set_option maxRecDepth 100000 in
set_option maxHeartbeats 4000000 in
theorem t_X10_needNumber (l : Launch) (D : zD) (A : Nat → Prop) (b : Nat) (G : zG) (q : zq) (hT : zTop G q) (hst : l.stackTraces = false) (a0 : Int32) (a1 : Int32) (a2 : Int32) (u : zU) {E : String} {q' : zq} {u' : zU} (h : f_X10_needNumber q a0 a1 a2 u = some (.inl E, q', u')) : z_TX l D A b G yX10_needNumber cX10_needNumber 3 none 6 90 [.int a0, .int a1, .int a2] q u E q' u' := by
  refine z_enterX (by decide) (Nat.le_of_ble_eq_true rfl) ?_
  intro p e s m below meth c ls C0 hex hml hlk hW hS hl
  have hl : lv_has ls 3 [(0, .int a0), (1, .int a1), (2, .int a2)] := hl
  have hx := C0.1
  have hb := C0.2.1
  have hs := hT.1
  rw [f_X10_needNumber_e] at h
  refine lv_iload_n hx hb dX10_needNumber_0 rfl (lv_at hl 0 rfl) ?_
  refine lv_iload_n hx hb dX10_needNumber_1 rfl (lv_at hl 1 rfl) ?_
  refine lv_icmp_lt (tgt := 10) hx hb dX10_needNumber_2 (by decide) (fun hc => ?_) (fun hc => ?_)
  · replace h := z_t h hc
    clear hc
    cases h
    exact z_thrW (k := 17) (tx := "the number is none") C0 hst hml hl.1 hW hS hT hex hlk tw_131_135 (List.mem_of_getElem? (i := 17) rfl) ⟨Nat.le_of_ble_eq_true rfl, Nat.le_of_ble_eq_true rfl⟩ ⟨Nat.le_of_ble_eq_true rfl, Nat.le_of_ble_eq_true rfl⟩ dX10_needNumber_10 dX10_needNumber_13 dX10_needNumber_14 dX10_needNumber_17 dX10_needNumber_20
  · replace h := z_f h hc
    clear hc
    refine lv_iload_n hx hb dX10_needNumber_5 rfl (lv_at hl 0 rfl) ?_
    refine lv_iload_n hx hb dX10_needNumber_6 rfl (lv_at hl 2 rfl) ?_
    refine lv_icmp_le (tgt := 21) hx hb dX10_needNumber_7 (by decide) (fun hc => ?_) (fun hc => ?_)
    · replace h := z_t h hc
      clear hc
      cases h
    · replace h := z_f h hc
      clear hc
      cases h
      exact z_thrW (k := 17) (tx := "the number is none") C0 hst hml hl.1 hW hS hT hex hlk tw_131_135 (List.mem_of_getElem? (i := 17) rfl) ⟨Nat.le_of_ble_eq_true rfl, Nat.le_of_ble_eq_true rfl⟩ ⟨Nat.le_of_ble_eq_true rfl, Nat.le_of_ble_eq_true rfl⟩ dX10_needNumber_10 dX10_needNumber_13 dX10_needNumber_14 dX10_needNumber_17 dX10_needNumber_20
def f_X10_needDraw (q : zq) (a1 : Int32) (u : zU) : Option ((String ⊕ Unit) × zq × zU) :=
  z_bx (f_X10_needNumber (q) a1 (0 : Int32) ((u 6 12) - (1 : Int32)) u) (fun w1 q3 u2 => some (.inr (), q3, u2))
theorem f_X10_needDraw_e (q : zq) (a1 : Int32) (u : zU) : f_X10_needDraw q a1 u = z_bx (f_X10_needNumber (q) a1 (0 : Int32) ((u 6 12) - (1 : Int32)) u) (fun w1 q3 u2 => some (.inr (), q3, u2)) := rfl
set_option maxRecDepth 100000 in
set_option maxHeartbeats 4000000 in
theorem c_X10_needDraw (l : Launch) (D : zD) (A : Nat → Prop) (b : Nat) (G : zG) (q : zq) (hT : zTop G q) (a1 : Int32) (u : zU) {q' : zq} {u' : zU} (h : f_X10_needDraw q a1 u = some (.inr (), q', u')) : z_MT l D A b G yX10_needDraw cX10_needDraw 2 none 7 112 [.ref (b + 0), .int a1] q u none q' u' := by
  refine z_enterT (by decide) (Nat.le_of_ble_eq_true rfl) ?_
  intro p e s m below meth c ls C0 hr hml hlk hW hS hl
  have hl : lv_has ls 2 [(0, .ref (b + 0)), (1, .int a1)] := hl
  have hx := C0.1
  have hb := C0.2.1
  have hs := hT.1
  rw [f_X10_needDraw_e] at h
  refine lv_iload_n hx hb dX10_needDraw_0 rfl (lv_at hl 1 rfl) ?_
  refine lv_iconst (v := (0 : Int32)) hx hb dX10_needDraw_1 (by decide) ?_
  refine lv_aload_n hx hb dX10_needDraw_2 rfl (lv_at hl 0 rfl) ?_
  refine z_getr (o := 6) C0 hW fl_X10_28 (zk1 (hs 0 (by decide))) rfl (zk3 (hs 0 (by decide)) 2) dX10_needDraw_3 ?_
  refine z_geti C0 hW fl_X10_242 (zT0 hT).1 rfl dX10_needDraw_6 ?_
  refine lv_iconst (v := (1 : Int32)) hx hb dX10_needDraw_9 (by decide) ?_
  refine lv_isub hx hb dX10_needDraw_10 ?_
  replace h := z_bxd h
  rcases h with ⟨E1, hq, hE⟩ | ⟨w1, q3, u2, hq, h⟩
  · cases hE
  · refine z_csTv (As := [.int a1, .int (0 : Int32), .int ((u 6 12) - (1 : Int32))]) C0 hml hl.1 hW hS (c_X10_needNumber l D A b G (q) hT a1 (0 : Int32) ((u 6 12) - (1 : Int32)) u hq) ms_X10_287 ⟨Nat.le_of_ble_eq_true rfl, Nat.le_of_ble_eq_true rfl⟩ rfl rfl (Nat.le_of_ble_eq_true rfl) dX10_needDraw_11 (fun H locs hW hS hT => ?_)
    clear hq
    have hs := hT.1
    cases h
    exact z_vretT C0 hr hlk hW hS hT dX10_needDraw_14
set_option maxRecDepth 100000 in
set_option maxHeartbeats 4000000 in
theorem t_X10_needDraw (l : Launch) (D : zD) (A : Nat → Prop) (b : Nat) (G : zG) (q : zq) (hT : zTop G q) (hst : l.stackTraces = false) (a1 : Int32) (u : zU) {E : String} {q' : zq} {u' : zU} (h : f_X10_needDraw q a1 u = some (.inl E, q', u')) : z_TX l D A b G yX10_needDraw cX10_needDraw 2 none 7 112 [.ref (b + 0), .int a1] q u E q' u' := by
  refine z_enterX (by decide) (Nat.le_of_ble_eq_true rfl) ?_
  intro p e s m below meth c ls C0 hex hml hlk hW hS hl
  have hl : lv_has ls 2 [(0, .ref (b + 0)), (1, .int a1)] := hl
  have hx := C0.1
  have hb := C0.2.1
  have hs := hT.1
  rw [f_X10_needDraw_e] at h
  refine lv_iload_n hx hb dX10_needDraw_0 rfl (lv_at hl 1 rfl) ?_
  refine lv_iconst (v := (0 : Int32)) hx hb dX10_needDraw_1 (by decide) ?_
  refine lv_aload_n hx hb dX10_needDraw_2 rfl (lv_at hl 0 rfl) ?_
  refine z_getr (o := 6) C0 hW fl_X10_28 (zk1 (hs 0 (by decide))) rfl (zk3 (hs 0 (by decide)) 2) dX10_needDraw_3 ?_
  refine z_geti C0 hW fl_X10_242 (zT0 hT).1 rfl dX10_needDraw_6 ?_
  refine lv_iconst (v := (1 : Int32)) hx hb dX10_needDraw_9 (by decide) ?_
  refine lv_isub hx hb dX10_needDraw_10 ?_
  replace h := z_bxd h
  rcases h with ⟨E1, hq, hE⟩ | ⟨w1, q3, u2, hq, h⟩
  · cases hE
    exact z_csX (As := [.int a1, .int (0 : Int32), .int ((u 6 12) - (1 : Int32))]) C0 hml hl.1 hW hS hex hlk (t_X10_needNumber l D A b G (q) hT hst a1 (0 : Int32) ((u 6 12) - (1 : Int32)) u hq) ms_X10_287 ⟨Nat.le_of_ble_eq_true rfl, Nat.le_of_ble_eq_true rfl⟩ ⟨Nat.le_of_ble_eq_true rfl, Nat.le_of_ble_eq_true rfl⟩ rfl rfl (Nat.le_of_ble_eq_true rfl) dX10_needDraw_11
  · refine z_csTv (As := [.int a1, .int (0 : Int32), .int ((u 6 12) - (1 : Int32))]) C0 hml hl.1 hW hS (c_X10_needNumber l D A b G (q) hT a1 (0 : Int32) ((u 6 12) - (1 : Int32)) u hq) ms_X10_287 ⟨Nat.le_of_ble_eq_true rfl, Nat.le_of_ble_eq_true rfl⟩ rfl rfl (Nat.le_of_ble_eq_true rfl) dX10_needDraw_11 (fun H locs hW hS hT => ?_)
    clear hq
    have hs := hT.1
    cases h
def f_X10_rider (q : zq) (a1 : Int32) (a2 : Int32) (u : zU) : Option ((String ⊕ Int32) × zq × zU) :=
  z_bx (f_X10_needRider (q) a1 u) (fun w1 q3 u2 => if z_in a1 8 = true then (z_let (u2 7 (a1).toNatClampNeg) (fun z4 => if a2 = (0 : Int32) then (some (.inr z4, q3, u2)) else (if a2 = (1 : Int32) then (if z_in a1 8 = true then (z_let (u2 8 (a1).toNatClampNeg) (fun z12 => some (.inr z12, q3, u2))) else none) else (if a2 = (2 : Int32) then (if z_in a1 8 = true then (z_let (u2 9 (a1).toNatClampNeg) (fun z11 => some (.inr z11, q3, u2))) else none) else (if a2 = (3 : Int32) then (if z_in a1 8 = true then (z_let (u2 10 (a1).toNatClampNeg) (fun z10 => some (.inr z10, q3, u2))) else none) else (if a2 = (4 : Int32) then (if z4 = (-1 : Int32) then (some (.inr (0 : Int32), q3, u2)) else (z_b2 (f_X9_owesBy 6 (q3 0) a1 (u2 6 10) u2) (fun r8 u9 => some (.inr r8, q3, u9)))) else (if a2 = (5 : Int32) then (if z4 = (-1 : Int32) then (some (.inr (-1 : Int32), q3, u2)) else (z_let (f_X9_height 6 (q3 0) z4 u2) (fun r7 => some (.inr r7, q3, u2)))) else (if a2 = (6 : Int32) then ((f_X10_levelWith (q3) a1 u2).bind (fun r6 => some (.inr r6, q3, u2))) else (if a2 = (7 : Int32) then ((f_X9_queuedAt 6 (q3 0) a1 u2).bind (fun r5 => some (.inr r5, q3, u2))) else (some (.inl "java/util/NoSuchElementException", q3, u2))))))))))) else none)
theorem f_X10_rider_e (q : zq) (a1 : Int32) (a2 : Int32) (u : zU) : f_X10_rider q a1 a2 u = z_bx (f_X10_needRider (q) a1 u) (fun w1 q3 u2 => if z_in a1 8 = true then (z_let (u2 7 (a1).toNatClampNeg) (fun z4 => if a2 = (0 : Int32) then (some (.inr z4, q3, u2)) else (if a2 = (1 : Int32) then (if z_in a1 8 = true then (z_let (u2 8 (a1).toNatClampNeg) (fun z12 => some (.inr z12, q3, u2))) else none) else (if a2 = (2 : Int32) then (if z_in a1 8 = true then (z_let (u2 9 (a1).toNatClampNeg) (fun z11 => some (.inr z11, q3, u2))) else none) else (if a2 = (3 : Int32) then (if z_in a1 8 = true then (z_let (u2 10 (a1).toNatClampNeg) (fun z10 => some (.inr z10, q3, u2))) else none) else (if a2 = (4 : Int32) then (if z4 = (-1 : Int32) then (some (.inr (0 : Int32), q3, u2)) else (z_b2 (f_X9_owesBy 6 (q3 0) a1 (u2 6 10) u2) (fun r8 u9 => some (.inr r8, q3, u9)))) else (if a2 = (5 : Int32) then (if z4 = (-1 : Int32) then (some (.inr (-1 : Int32), q3, u2)) else (z_let (f_X9_height 6 (q3 0) z4 u2) (fun r7 => some (.inr r7, q3, u2)))) else (if a2 = (6 : Int32) then ((f_X10_levelWith (q3) a1 u2).bind (fun r6 => some (.inr r6, q3, u2))) else (if a2 = (7 : Int32) then ((f_X9_queuedAt 6 (q3 0) a1 u2).bind (fun r5 => some (.inr r5, q3, u2))) else (some (.inl "java/util/NoSuchElementException", q3, u2))))))))))) else none) := rfl
set_option maxRecDepth 100000 in
set_option maxHeartbeats 4000000 in
theorem c_X10_rider (l : Launch) (D : zD) (A : Nat → Prop) (b : Nat) (G : zG) (q : zq) (hT : zTop G q) (a1 : Int32) (a2 : Int32) (u : zU) {v : Int32} {q' : zq} {u' : zU} (h : f_X10_rider q a1 a2 u = some (.inr v, q', u')) : z_MT l D A b G yX10_rider cX10_rider 4 (some .int) 7 111 [.ref (b + 0), .int a1, .int a2] q u (some (.int v)) q' u' := by
  refine z_enterT (by decide) (Nat.le_of_ble_eq_true rfl) ?_
  intro p e s m below meth c ls C0 hr hml hlk hW hS hl
  have hl : lv_has ls 4 [(0, .ref (b + 0)), (1, .int a1), (2, .int a2)] := hl
  have hx := C0.1
  have hb := C0.2.1
  have hs := hT.1
  rw [f_X10_rider_e] at h
  refine lv_aload_n hx hb dX10_rider_0 rfl (lv_at hl 0 rfl) ?_
  refine lv_iload_n hx hb dX10_rider_1 rfl (lv_at hl 1 rfl) ?_
  replace h := z_bxd h
  rcases h with ⟨E1, hq, hE⟩ | ⟨w1, q3, u2, hq, h⟩
  · cases hE
  · refine z_cvTv (As := [.int a1]) C0 hml hl.1 hW hS (c_X10_needRider l D A b G (q) hT a1 u hq) mv_X10_136 (zk1 (hs 0 (by decide))) ⟨Nat.le_of_ble_eq_true rfl, Nat.le_of_ble_eq_true rfl⟩ rfl rfl (Nat.le_of_ble_eq_true rfl) dX10_rider_2 (fun H locs hW hS hT => ?_)
    clear hq
    have hs := hT.1
    refine lv_aload_n hx hb dX10_rider_5 rfl (lv_at hl 0 rfl) ?_
    refine z_getr (o := 6) C0 hW fl_X10_28 (zk1 (hs 0 (by decide))) rfl (zk3 (hs 0 (by decide)) 2) dX10_rider_6 ?_
    refine z_getr (o := 7) C0 hW fl_X10_139 (zT0 hT).1 rfl ((zT0 hT).2.1 0 (by decide)).1 dX10_rider_9 ?_
    refine lv_iload_n hx hb dX10_rider_12 rfl (lv_at hl 1 rfl) ?_
    replace h := z_if h
    obtain ⟨hin, h⟩ := h
    refine z_iald (n := 8) C0 hW ((zT0 hT).2.1 0 (by decide)).2.1 ((zT0 hT).2.1 0 (by decide)).2.2 hin rfl dX10_rider_13 ?_
    clear hin
    refine lv_topi (fun z4 e1 => ?_)
    replace h := z_ly h e1
    clear e1
    refine lv_istore_n (lv' := [(3, .int z4), (0, .ref (b + 0)), (1, .int a1), (2, .int a2)]) hx hb dX10_rider_14 rfl hl (by decide) rfl (fun ls hl => ?_)
    refine lv_iload_n hx hb dX10_rider_15 rfl (lv_at hl 3 rfl) ?_
    by_cases hn0 : a2 = (0 : Int32)
    · replace h := z_t h hn0
      refine lv_tableIn (off := 48) (tgt := 64) hx hb dX10_rider_16 (z_swa hn0 0 7 0 (by decide)).1 (z_swa hn0 0 7 0 (by decide)).2.1 (by rw [(z_swa hn0 0 7 0 (by decide)).2.2]; rfl) (by decide) ?_
      refine lv_iload_n hx hb dX10_rider_64 rfl (lv_at hl 0 rfl) ?_
      cases h
      exact z_iretT C0 hr hlk hW hS hT dX10_rider_65
    · replace h := z_f h hn0
      by_cases hn1 : a2 = (1 : Int32)
      · replace h := z_t h hn1
        refine lv_tableIn (off := 50) (tgt := 66) hx hb dX10_rider_16 (z_swa hn1 0 7 1 (by decide)).1 (z_swa hn1 0 7 1 (by decide)).2.1 (by rw [(z_swa hn1 0 7 1 (by decide)).2.2]; rfl) (by decide) ?_
        refine lv_aload_n hx hb dX10_rider_66 rfl (lv_at hl 1 rfl) ?_
        refine z_getr (o := 6) C0 hW fl_X10_28 (zk1 (hs 0 (by decide))) rfl (zk3 (hs 0 (by decide)) 2) dX10_rider_67 ?_
        refine z_getr (o := 8) C0 hW fl_X10_143 (zT0 hT).1 rfl ((zT0 hT).2.1 1 (by decide)).1 dX10_rider_70 ?_
        refine lv_iload_n hx hb dX10_rider_73 rfl (lv_at hl 2 rfl) ?_
        replace h := z_if h
        obtain ⟨hin, h⟩ := h
        refine z_iald (n := 8) C0 hW ((zT0 hT).2.1 1 (by decide)).2.1 ((zT0 hT).2.1 1 (by decide)).2.2 hin rfl dX10_rider_74 ?_
        clear hin
        refine lv_topi (fun z12 e1 => ?_)
        replace h := z_ly h e1
        clear e1
        cases h
        exact z_iretT C0 hr hlk hW hS hT dX10_rider_75
      · replace h := z_f h hn1
        by_cases hn2 : a2 = (2 : Int32)
        · replace h := z_t h hn2
          refine lv_tableIn (off := 60) (tgt := 76) hx hb dX10_rider_16 (z_swa hn2 0 7 2 (by decide)).1 (z_swa hn2 0 7 2 (by decide)).2.1 (by rw [(z_swa hn2 0 7 2 (by decide)).2.2]; rfl) (by decide) ?_
          refine lv_aload_n hx hb dX10_rider_76 rfl (lv_at hl 1 rfl) ?_
          refine z_getr (o := 6) C0 hW fl_X10_28 (zk1 (hs 0 (by decide))) rfl (zk3 (hs 0 (by decide)) 2) dX10_rider_77 ?_
          refine z_getr (o := 9) C0 hW fl_X10_146 (zT0 hT).1 rfl ((zT0 hT).2.1 2 (by decide)).1 dX10_rider_80 ?_
          refine lv_iload_n hx hb dX10_rider_83 rfl (lv_at hl 2 rfl) ?_
          replace h := z_if h
          obtain ⟨hin, h⟩ := h
          refine z_iald (n := 8) C0 hW ((zT0 hT).2.1 2 (by decide)).2.1 ((zT0 hT).2.1 2 (by decide)).2.2 hin rfl dX10_rider_84 ?_
          clear hin
          refine lv_topi (fun z11 e1 => ?_)
          replace h := z_ly h e1
          clear e1
          cases h
          exact z_iretT C0 hr hlk hW hS hT dX10_rider_85
        · replace h := z_f h hn2
          by_cases hn3 : a2 = (3 : Int32)
          · replace h := z_t h hn3
            refine lv_tableIn (off := 70) (tgt := 86) hx hb dX10_rider_16 (z_swa hn3 0 7 3 (by decide)).1 (z_swa hn3 0 7 3 (by decide)).2.1 (by rw [(z_swa hn3 0 7 3 (by decide)).2.2]; rfl) (by decide) ?_
            refine lv_aload_n hx hb dX10_rider_86 rfl (lv_at hl 1 rfl) ?_
            refine z_getr (o := 6) C0 hW fl_X10_28 (zk1 (hs 0 (by decide))) rfl (zk3 (hs 0 (by decide)) 2) dX10_rider_87 ?_
            refine z_getr (o := 10) C0 hW fl_X10_149 (zT0 hT).1 rfl ((zT0 hT).2.1 3 (by decide)).1 dX10_rider_90 ?_
            refine lv_iload_n hx hb dX10_rider_93 rfl (lv_at hl 2 rfl) ?_
            replace h := z_if h
            obtain ⟨hin, h⟩ := h
            refine z_iald (n := 8) C0 hW ((zT0 hT).2.1 3 (by decide)).2.1 ((zT0 hT).2.1 3 (by decide)).2.2 hin rfl dX10_rider_94 ?_
            clear hin
            refine lv_topi (fun z10 e1 => ?_)
            replace h := z_ly h e1
            clear e1
            cases h
            exact z_iretT C0 hr hlk hW hS hT dX10_rider_95
          · replace h := z_f h hn3
            by_cases hn4 : a2 = (4 : Int32)
            · replace h := z_t h hn4
              refine lv_tableIn (off := 80) (tgt := 96) hx hb dX10_rider_16 (z_swa hn4 0 7 4 (by decide)).1 (z_swa hn4 0 7 4 (by decide)).2.1 (by rw [(z_swa hn4 0 7 4 (by decide)).2.2]; rfl) (by decide) ?_
              refine lv_iload_n hx hb dX10_rider_96 rfl (lv_at hl 0 rfl) ?_
              refine lv_iconst (v := (-1 : Int32)) hx hb dX10_rider_97 (by decide) ?_
              refine lv_icmp_ne (tgt := 105) hx hb dX10_rider_98 (by decide) (fun hc => ?_) (fun hc => ?_)
              · replace h := z_f h hc
                clear hc
                refine lv_aload_n hx hb dX10_rider_105 rfl (lv_at hl 1 rfl) ?_
                refine z_getr (o := 6) C0 hW fl_X10_28 (zk1 (hs 0 (by decide))) rfl (zk3 (hs 0 (by decide)) 2) dX10_rider_106 ?_
                refine lv_iload_n hx hb dX10_rider_109 rfl (lv_at hl 2 rfl) ?_
                refine lv_aload_n hx hb dX10_rider_110 rfl (lv_at hl 1 rfl) ?_
                refine z_getr (o := 6) C0 hW fl_X10_28 (zk1 (hs 0 (by decide))) rfl (zk3 (hs 0 (by decide)) 2) dX10_rider_111 ?_
                refine z_geti C0 hW fl_X10_152 (zT0 hT).1 rfl dX10_rider_114 ?_
                replace h := z_bd2 h
                obtain ⟨r8, u9, hq, h⟩ := h
                refine z_cvi (As := [.int a1, .int (u2 6 10)]) C0 hml hl.1 hW hS (c_X9_owesBy l D A b (zg G q3) 6 (q3 0) (zT0 hT) a1 (u2 6 10) u2 hq) mv_X10_155 (zT0 hT).1 ⟨Nat.le_of_ble_eq_true rfl, Nat.le_of_ble_eq_true rfl⟩ rfl rfl (Nat.le_of_ble_eq_true rfl) dX10_rider_117 (fun H locs hW hS => ?_)
                clear hq
                cases h
                exact z_iretT C0 hr hlk hW hS hT dX10_rider_120
              · replace h := z_t h hc
                clear hc
                refine lv_iconst (v := (0 : Int32)) hx hb dX10_rider_101 (by decide) ?_
                refine lv_goto (tgt := 120) hx hb dX10_rider_102 (by decide) ?_
                cases h
                exact z_iretT C0 hr hlk hW hS hT dX10_rider_120
            · replace h := z_f h hn4
              by_cases hn5 : a2 = (5 : Int32)
              · replace h := z_t h hn5
                refine lv_tableIn (off := 105) (tgt := 121) hx hb dX10_rider_16 (z_swa hn5 0 7 5 (by decide)).1 (z_swa hn5 0 7 5 (by decide)).2.1 (by rw [(z_swa hn5 0 7 5 (by decide)).2.2]; rfl) (by decide) ?_
                refine lv_iload_n hx hb dX10_rider_121 rfl (lv_at hl 0 rfl) ?_
                refine lv_iconst (v := (-1 : Int32)) hx hb dX10_rider_122 (by decide) ?_
                refine lv_icmp_ne (tgt := 130) hx hb dX10_rider_123 (by decide) (fun hc => ?_) (fun hc => ?_)
                · replace h := z_f h hc
                  clear hc
                  refine lv_aload_n hx hb dX10_rider_130 rfl (lv_at hl 1 rfl) ?_
                  refine z_getr (o := 6) C0 hW fl_X10_28 (zk1 (hs 0 (by decide))) rfl (zk3 (hs 0 (by decide)) 2) dX10_rider_131 ?_
                  refine lv_iload_n hx hb dX10_rider_134 rfl (lv_at hl 0 rfl) ?_
                  obtain ⟨r7, hq⟩ : ∃ y, f_X9_height 6 (q3 0) z4 u2 = y := ⟨_, rfl⟩
                  replace h := z_lz h hq
                  refine z_cvi (As := [.int z4]) C0 hml hl.1 hW hS (c_X9_height l D A b (zg G q3) 6 (q3 0) (zT0 hT) z4 u2 hq) mv_X10_159 (zT0 hT).1 ⟨Nat.le_of_ble_eq_true rfl, Nat.le_of_ble_eq_true rfl⟩ rfl rfl (Nat.le_of_ble_eq_true rfl) dX10_rider_135 (fun H locs hW hS => ?_)
                  clear hq
                  cases h
                  exact z_iretT C0 hr hlk hW hS hT dX10_rider_138
                · replace h := z_t h hc
                  clear hc
                  refine lv_iconst (v := (-1 : Int32)) hx hb dX10_rider_126 (by decide) ?_
                  refine lv_goto (tgt := 138) hx hb dX10_rider_127 (by decide) ?_
                  cases h
                  exact z_iretT C0 hr hlk hW hS hT dX10_rider_138
              · replace h := z_f h hn5
                by_cases hn6 : a2 = (6 : Int32)
                · replace h := z_t h hn6
                  refine lv_tableIn (off := 123) (tgt := 139) hx hb dX10_rider_16 (z_swa hn6 0 7 6 (by decide)).1 (z_swa hn6 0 7 6 (by decide)).2.1 (by rw [(z_swa hn6 0 7 6 (by decide)).2.2]; rfl) (by decide) ?_
                  refine lv_aload_n hx hb dX10_rider_139 rfl (lv_at hl 1 rfl) ?_
                  refine lv_iload_n hx hb dX10_rider_140 rfl (lv_at hl 2 rfl) ?_
                  replace h := z_bd h
                  obtain ⟨r6, hq, h⟩ := h
                  refine z_cvi (As := [.int a1]) C0 hml hl.1 hW hS (c_X10_levelWith l D A b G (q3) hT a1 u2 hq) mv_X10_163 (zk1 (hs 0 (by decide))) ⟨Nat.le_of_ble_eq_true rfl, Nat.le_of_ble_eq_true rfl⟩ rfl rfl (Nat.le_of_ble_eq_true rfl) dX10_rider_141 (fun H locs hW hS => ?_)
                  clear hq
                  cases h
                  exact z_iretT C0 hr hlk hW hS hT dX10_rider_144
                · replace h := z_f h hn6
                  by_cases hn7 : a2 = (7 : Int32)
                  · replace h := z_t h hn7
                    refine lv_tableIn (off := 129) (tgt := 145) hx hb dX10_rider_16 (z_swa hn7 0 7 7 (by decide)).1 (z_swa hn7 0 7 7 (by decide)).2.1 (by rw [(z_swa hn7 0 7 7 (by decide)).2.2]; rfl) (by decide) ?_
                    refine lv_aload_n hx hb dX10_rider_145 rfl (lv_at hl 1 rfl) ?_
                    refine z_getr (o := 6) C0 hW fl_X10_28 (zk1 (hs 0 (by decide))) rfl (zk3 (hs 0 (by decide)) 2) dX10_rider_146 ?_
                    refine lv_iload_n hx hb dX10_rider_149 rfl (lv_at hl 2 rfl) ?_
                    replace h := z_bd h
                    obtain ⟨r5, hq, h⟩ := h
                    refine z_cvi (As := [.int a1]) C0 hml hl.1 hW hS (c_X9_queuedAt l D A b (zg G q3) 6 (q3 0) (zT0 hT) a1 u2 hq) mv_X10_166 (zT0 hT).1 ⟨Nat.le_of_ble_eq_true rfl, Nat.le_of_ble_eq_true rfl⟩ rfl rfl (Nat.le_of_ble_eq_true rfl) dX10_rider_150 (fun H locs hW hS => ?_)
                    clear hq
                    cases h
                    exact z_iretT C0 hr hlk hW hS hT dX10_rider_153
                  · replace h := z_f h hn7
                    refine lv_tableOut (tgt := 154) hx hb dX10_rider_16 (z_sw 0 7 (by decide) (fun k h1 h2 => ?_)) (by decide) ?_
                    · rcases (show k = 0 ∨ k = 1 ∨ k = 2 ∨ k = 3 ∨ k = 4 ∨ k = 5 ∨ k = 6 ∨ k = 7 by omega) with rfl | rfl | rfl | rfl | rfl | rfl | rfl | rfl
                      · exact hn0
                      · exact hn1
                      · exact hn2
                      · exact hn3
                      · exact hn4
                      · exact hn5
                      · exact hn6
                      · exact hn7
                    · cases h
def f_X10_cradle (q : zq) (a1 : Int32) (a2 : Int32) (u : zU) : Option ((String ⊕ Int32) × zq × zU) :=
  z_bx (f_X10_needCradle (q) a1 u) (fun w1 q3 u2 => if a2 = (0 : Int32) then (if z_in a1 8 = true then (z_let (u2 12 (a1).toNatClampNeg) (fun z10 => some (.inr z10, q3, u2))) else none) else (if a2 = (1 : Int32) then ((f_X9_ridersIn 6 (q3 0) a1 u2).bind (fun r9 => some (.inr r9, q3, u2))) else (if a2 = (2 : Int32) then (z_let (f_X9_places 6 (q3 0) a1 u2) (fun r8 => some (.inr r8, q3, u2))) else (if a2 = (3 : Int32) then (z_let (f_X9_height 6 (q3 0) a1 u2) (fun r7 => some (.inr r7, q3, u2))) else (if a2 = (4 : Int32) then ((f_X9_ridersIn 6 (q3 0) a1 u2).bind (fun r5 => (f_X10_weightOf (q3) r5 u2).bind (fun r6 => some (.inr r6, q3, u2)))) else (if a2 = (5 : Int32) then (z_let (f_X9_costOf 6 (q3 0) a1 u2) (fun r4 => some (.inr r4, q3, u2))) else (some (.inl "java/util/NoSuchElementException", q3, u2))))))))
theorem f_X10_cradle_e (q : zq) (a1 : Int32) (a2 : Int32) (u : zU) : f_X10_cradle q a1 a2 u = z_bx (f_X10_needCradle (q) a1 u) (fun w1 q3 u2 => if a2 = (0 : Int32) then (if z_in a1 8 = true then (z_let (u2 12 (a1).toNatClampNeg) (fun z10 => some (.inr z10, q3, u2))) else none) else (if a2 = (1 : Int32) then ((f_X9_ridersIn 6 (q3 0) a1 u2).bind (fun r9 => some (.inr r9, q3, u2))) else (if a2 = (2 : Int32) then (z_let (f_X9_places 6 (q3 0) a1 u2) (fun r8 => some (.inr r8, q3, u2))) else (if a2 = (3 : Int32) then (z_let (f_X9_height 6 (q3 0) a1 u2) (fun r7 => some (.inr r7, q3, u2))) else (if a2 = (4 : Int32) then ((f_X9_ridersIn 6 (q3 0) a1 u2).bind (fun r5 => (f_X10_weightOf (q3) r5 u2).bind (fun r6 => some (.inr r6, q3, u2)))) else (if a2 = (5 : Int32) then (z_let (f_X9_costOf 6 (q3 0) a1 u2) (fun r4 => some (.inr r4, q3, u2))) else (some (.inl "java/util/NoSuchElementException", q3, u2)))))))) := rfl
set_option maxRecDepth 100000 in
set_option maxHeartbeats 4000000 in
theorem c_X10_cradle (l : Launch) (D : zD) (A : Nat → Prop) (b : Nat) (G : zG) (q : zq) (hT : zTop G q) (a1 : Int32) (a2 : Int32) (u : zU) {v : Int32} {q' : zq} {u' : zU} (h : f_X10_cradle q a1 a2 u = some (.inr v, q', u')) : z_MT l D A b G yX10_cradle cX10_cradle 3 (some .int) 7 110 [.ref (b + 0), .int a1, .int a2] q u (some (.int v)) q' u' := by
  refine z_enterT (by decide) (Nat.le_of_ble_eq_true rfl) ?_
  intro p e s m below meth c ls C0 hr hml hlk hW hS hl
  have hl : lv_has ls 3 [(0, .ref (b + 0)), (1, .int a1), (2, .int a2)] := hl
  have hx := C0.1
  have hb := C0.2.1
  have hs := hT.1
  rw [f_X10_cradle_e] at h
  refine lv_iload_n hx hb dX10_cradle_0 rfl (lv_at hl 1 rfl) ?_
  replace h := z_bxd h
  rcases h with ⟨E1, hq, hE⟩ | ⟨w1, q3, u2, hq, h⟩
  · cases hE
  · refine z_csTv (As := [.int a1]) C0 hml hl.1 hW hS (c_X10_needCradle l D A b G (q) hT a1 u hq) ms_X10_174 ⟨Nat.le_of_ble_eq_true rfl, Nat.le_of_ble_eq_true rfl⟩ rfl rfl (Nat.le_of_ble_eq_true rfl) dX10_cradle_1 (fun H locs hW hS hT => ?_)
    clear hq
    have hs := hT.1
    refine lv_iload_n hx hb dX10_cradle_4 rfl (lv_at hl 2 rfl) ?_
    by_cases hn0 : a2 = (0 : Int32)
    · replace h := z_t h hn0
      refine lv_tableIn (off := 39) (tgt := 44) hx hb dX10_cradle_5 (z_swa hn0 0 5 0 (by decide)).1 (z_swa hn0 0 5 0 (by decide)).2.1 (by rw [(z_swa hn0 0 5 0 (by decide)).2.2]; rfl) (by decide) ?_
      refine lv_aload_n hx hb dX10_cradle_44 rfl (lv_at hl 0 rfl) ?_
      refine z_getr (o := 6) C0 hW fl_X10_28 (zk1 (hs 0 (by decide))) rfl (zk3 (hs 0 (by decide)) 2) dX10_cradle_45 ?_
      refine z_getr (o := 12) C0 hW fl_X10_177 (zT0 hT).1 rfl ((zT0 hT).2.1 5 (by decide)).1 dX10_cradle_48 ?_
      refine lv_iload_n hx hb dX10_cradle_51 rfl (lv_at hl 1 rfl) ?_
      replace h := z_if h
      obtain ⟨hin, h⟩ := h
      refine z_iald (n := 8) C0 hW ((zT0 hT).2.1 5 (by decide)).2.1 ((zT0 hT).2.1 5 (by decide)).2.2 hin rfl dX10_cradle_52 ?_
      clear hin
      refine lv_topi (fun z10 e1 => ?_)
      replace h := z_ly h e1
      clear e1
      cases h
      exact z_iretT C0 hr hlk hW hS hT dX10_cradle_53
    · replace h := z_f h hn0
      by_cases hn1 : a2 = (1 : Int32)
      · replace h := z_t h hn1
        refine lv_tableIn (off := 49) (tgt := 54) hx hb dX10_cradle_5 (z_swa hn1 0 5 1 (by decide)).1 (z_swa hn1 0 5 1 (by decide)).2.1 (by rw [(z_swa hn1 0 5 1 (by decide)).2.2]; rfl) (by decide) ?_
        refine lv_aload_n hx hb dX10_cradle_54 rfl (lv_at hl 0 rfl) ?_
        refine z_getr (o := 6) C0 hW fl_X10_28 (zk1 (hs 0 (by decide))) rfl (zk3 (hs 0 (by decide)) 2) dX10_cradle_55 ?_
        refine lv_iload_n hx hb dX10_cradle_58 rfl (lv_at hl 1 rfl) ?_
        replace h := z_bd h
        obtain ⟨r9, hq, h⟩ := h
        refine z_cvi (As := [.int a1]) C0 hml hl.1 hW hS (c_X9_ridersIn l D A b (zg G q3) 6 (q3 0) (zT0 hT) a1 u2 hq) mv_X10_180 (zT0 hT).1 ⟨Nat.le_of_ble_eq_true rfl, Nat.le_of_ble_eq_true rfl⟩ rfl rfl (Nat.le_of_ble_eq_true rfl) dX10_cradle_59 (fun H locs hW hS => ?_)
        clear hq
        cases h
        exact z_iretT C0 hr hlk hW hS hT dX10_cradle_62
      · replace h := z_f h hn1
        by_cases hn2 : a2 = (2 : Int32)
        · replace h := z_t h hn2
          refine lv_tableIn (off := 58) (tgt := 63) hx hb dX10_cradle_5 (z_swa hn2 0 5 2 (by decide)).1 (z_swa hn2 0 5 2 (by decide)).2.1 (by rw [(z_swa hn2 0 5 2 (by decide)).2.2]; rfl) (by decide) ?_
          refine lv_aload_n hx hb dX10_cradle_63 rfl (lv_at hl 0 rfl) ?_
          refine z_getr (o := 6) C0 hW fl_X10_28 (zk1 (hs 0 (by decide))) rfl (zk3 (hs 0 (by decide)) 2) dX10_cradle_64 ?_
          refine lv_iload_n hx hb dX10_cradle_67 rfl (lv_at hl 1 rfl) ?_
          obtain ⟨r8, hq⟩ : ∃ y, f_X9_places 6 (q3 0) a1 u2 = y := ⟨_, rfl⟩
          replace h := z_lz h hq
          refine z_cvi (As := [.int a1]) C0 hml hl.1 hW hS (c_X9_places l D A b (zg G q3) 6 (q3 0) (zT0 hT) a1 u2 hq) mv_X10_183 (zT0 hT).1 ⟨Nat.le_of_ble_eq_true rfl, Nat.le_of_ble_eq_true rfl⟩ rfl rfl (Nat.le_of_ble_eq_true rfl) dX10_cradle_68 (fun H locs hW hS => ?_)
          clear hq
          cases h
          exact z_iretT C0 hr hlk hW hS hT dX10_cradle_71
        · replace h := z_f h hn2
          by_cases hn3 : a2 = (3 : Int32)
          · replace h := z_t h hn3
            refine lv_tableIn (off := 67) (tgt := 72) hx hb dX10_cradle_5 (z_swa hn3 0 5 3 (by decide)).1 (z_swa hn3 0 5 3 (by decide)).2.1 (by rw [(z_swa hn3 0 5 3 (by decide)).2.2]; rfl) (by decide) ?_
            refine lv_aload_n hx hb dX10_cradle_72 rfl (lv_at hl 0 rfl) ?_
            refine z_getr (o := 6) C0 hW fl_X10_28 (zk1 (hs 0 (by decide))) rfl (zk3 (hs 0 (by decide)) 2) dX10_cradle_73 ?_
            refine lv_iload_n hx hb dX10_cradle_76 rfl (lv_at hl 1 rfl) ?_
            obtain ⟨r7, hq⟩ : ∃ y, f_X9_height 6 (q3 0) a1 u2 = y := ⟨_, rfl⟩
            replace h := z_lz h hq
            refine z_cvi (As := [.int a1]) C0 hml hl.1 hW hS (c_X9_height l D A b (zg G q3) 6 (q3 0) (zT0 hT) a1 u2 hq) mv_X10_159 (zT0 hT).1 ⟨Nat.le_of_ble_eq_true rfl, Nat.le_of_ble_eq_true rfl⟩ rfl rfl (Nat.le_of_ble_eq_true rfl) dX10_cradle_77 (fun H locs hW hS => ?_)
            clear hq
            cases h
            exact z_iretT C0 hr hlk hW hS hT dX10_cradle_80
          · replace h := z_f h hn3
            by_cases hn4 : a2 = (4 : Int32)
            · replace h := z_t h hn4
              refine lv_tableIn (off := 76) (tgt := 81) hx hb dX10_cradle_5 (z_swa hn4 0 5 4 (by decide)).1 (z_swa hn4 0 5 4 (by decide)).2.1 (by rw [(z_swa hn4 0 5 4 (by decide)).2.2]; rfl) (by decide) ?_
              refine lv_aload_n hx hb dX10_cradle_81 rfl (lv_at hl 0 rfl) ?_
              refine lv_aload_n hx hb dX10_cradle_82 rfl (lv_at hl 0 rfl) ?_
              refine z_getr (o := 6) C0 hW fl_X10_28 (zk1 (hs 0 (by decide))) rfl (zk3 (hs 0 (by decide)) 2) dX10_cradle_83 ?_
              refine lv_iload_n hx hb dX10_cradle_86 rfl (lv_at hl 1 rfl) ?_
              replace h := z_bd h
              obtain ⟨r5, hq, h⟩ := h
              refine z_cvi (As := [.int a1]) C0 hml hl.1 hW hS (c_X9_ridersIn l D A b (zg G q3) 6 (q3 0) (zT0 hT) a1 u2 hq) mv_X10_180 (zT0 hT).1 ⟨Nat.le_of_ble_eq_true rfl, Nat.le_of_ble_eq_true rfl⟩ rfl rfl (Nat.le_of_ble_eq_true rfl) dX10_cradle_87 (fun H locs hW hS => ?_)
              clear hq
              replace h := z_bd h
              obtain ⟨r6, hq, h⟩ := h
              refine z_cvi (As := [.int r5]) C0 hml hl.1 hW hS (c_X10_weightOf l D A b G (q3) hT r5 u2 hq) mv_X10_186 (zk1 (hs 0 (by decide))) ⟨Nat.le_of_ble_eq_true rfl, Nat.le_of_ble_eq_true rfl⟩ rfl rfl (Nat.le_of_ble_eq_true rfl) dX10_cradle_90 (fun H locs hW hS => ?_)
              clear hq
              cases h
              exact z_iretT C0 hr hlk hW hS hT dX10_cradle_93
            · replace h := z_f h hn4
              by_cases hn5 : a2 = (5 : Int32)
              · replace h := z_t h hn5
                refine lv_tableIn (off := 89) (tgt := 94) hx hb dX10_cradle_5 (z_swa hn5 0 5 5 (by decide)).1 (z_swa hn5 0 5 5 (by decide)).2.1 (by rw [(z_swa hn5 0 5 5 (by decide)).2.2]; rfl) (by decide) ?_
                refine lv_aload_n hx hb dX10_cradle_94 rfl (lv_at hl 0 rfl) ?_
                refine z_getr (o := 6) C0 hW fl_X10_28 (zk1 (hs 0 (by decide))) rfl (zk3 (hs 0 (by decide)) 2) dX10_cradle_95 ?_
                refine lv_iload_n hx hb dX10_cradle_98 rfl (lv_at hl 1 rfl) ?_
                obtain ⟨r4, hq⟩ : ∃ y, f_X9_costOf 6 (q3 0) a1 u2 = y := ⟨_, rfl⟩
                replace h := z_lz h hq
                refine z_cvi (As := [.int a1]) C0 hml hl.1 hW hS (c_X9_costOf l D A b (zg G q3) 6 (q3 0) (zT0 hT) a1 u2 hq) mv_X10_189 (zT0 hT).1 ⟨Nat.le_of_ble_eq_true rfl, Nat.le_of_ble_eq_true rfl⟩ rfl rfl (Nat.le_of_ble_eq_true rfl) dX10_cradle_99 (fun H locs hW hS => ?_)
                clear hq
                cases h
                exact z_iretT C0 hr hlk hW hS hT dX10_cradle_102
              · replace h := z_f h hn5
                refine lv_tableOut (tgt := 103) hx hb dX10_cradle_5 (z_sw 0 5 (by decide) (fun k h1 h2 => ?_)) (by decide) ?_
                · rcases (show k = 0 ∨ k = 1 ∨ k = 2 ∨ k = 3 ∨ k = 4 ∨ k = 5 by omega) with rfl | rfl | rfl | rfl | rfl | rfl
                  · exact hn0
                  · exact hn1
                  · exact hn2
                  · exact hn3
                  · exact hn4
                  · exact hn5
                · cases h
def f_X10_party (q : zq) (a1 : Int32) (a2 : Int32) (u : zU) : Option ((String ⊕ Int32) × zq × zU) :=
  z_bx (f_X10_needParty (q) a1 u) (fun w1 q3 u2 => if a2 = (0 : Int32) then (if z_in a1 4 = true then (z_let (u2 13 (a1).toNatClampNeg) (fun z7 => some (.inr z7, q3, u2))) else none) else (if a2 = (1 : Int32) then ((f_X10_ridersOf (q3) ((1 : Int32) <<< (a1 &&& 31)) u2).bind (fun r6 => some (.inr r6, q3, u2))) else (if a2 = (2 : Int32) then ((f_X10_seatedWeight (q3) ((1 : Int32) <<< (a1 &&& 31)) u2).bind (fun r5 => some (.inr r5, q3, u2))) else (if a2 = (3 : Int32) then ((f_X10_powerOf (q3) ((1 : Int32) <<< (a1 &&& 31)) u2).bind (fun r4 => some (.inr r4, q3, u2))) else (some (.inl "java/util/NoSuchElementException", q3, u2))))))
theorem f_X10_party_e (q : zq) (a1 : Int32) (a2 : Int32) (u : zU) : f_X10_party q a1 a2 u = z_bx (f_X10_needParty (q) a1 u) (fun w1 q3 u2 => if a2 = (0 : Int32) then (if z_in a1 4 = true then (z_let (u2 13 (a1).toNatClampNeg) (fun z7 => some (.inr z7, q3, u2))) else none) else (if a2 = (1 : Int32) then ((f_X10_ridersOf (q3) ((1 : Int32) <<< (a1 &&& 31)) u2).bind (fun r6 => some (.inr r6, q3, u2))) else (if a2 = (2 : Int32) then ((f_X10_seatedWeight (q3) ((1 : Int32) <<< (a1 &&& 31)) u2).bind (fun r5 => some (.inr r5, q3, u2))) else (if a2 = (3 : Int32) then ((f_X10_powerOf (q3) ((1 : Int32) <<< (a1 &&& 31)) u2).bind (fun r4 => some (.inr r4, q3, u2))) else (some (.inl "java/util/NoSuchElementException", q3, u2)))))) := rfl
set_option maxRecDepth 100000 in
set_option maxHeartbeats 4000000 in
theorem c_X10_party (l : Launch) (D : zD) (A : Nat → Prop) (b : Nat) (G : zG) (q : zq) (hT : zTop G q) (a1 : Int32) (a2 : Int32) (u : zU) {v : Int32} {q' : zq} {u' : zU} (h : f_X10_party q a1 a2 u = some (.inr v, q', u')) : z_MT l D A b G yX10_party cX10_party 3 (some .int) 7 110 [.ref (b + 0), .int a1, .int a2] q u (some (.int v)) q' u' := by
  refine z_enterT (by decide) (Nat.le_of_ble_eq_true rfl) ?_
  intro p e s m below meth c ls C0 hr hml hlk hW hS hl
  have hl : lv_has ls 3 [(0, .ref (b + 0)), (1, .int a1), (2, .int a2)] := hl
  have hx := C0.1
  have hb := C0.2.1
  have hs := hT.1
  rw [f_X10_party_e] at h
  refine lv_iload_n hx hb dX10_party_0 rfl (lv_at hl 1 rfl) ?_
  replace h := z_bxd h
  rcases h with ⟨E1, hq, hE⟩ | ⟨w1, q3, u2, hq, h⟩
  · cases hE
  · refine z_csTv (As := [.int a1]) C0 hml hl.1 hW hS (c_X10_needParty l D A b G (q) hT a1 u hq) ms_X10_194 ⟨Nat.le_of_ble_eq_true rfl, Nat.le_of_ble_eq_true rfl⟩ rfl rfl (Nat.le_of_ble_eq_true rfl) dX10_party_1 (fun H locs hW hS hT => ?_)
    clear hq
    have hs := hT.1
    refine lv_iload_n hx hb dX10_party_4 rfl (lv_at hl 2 rfl) ?_
    by_cases hn0 : a2 = (0 : Int32)
    · replace h := z_t h hn0
      refine lv_tableIn (off := 31) (tgt := 36) hx hb dX10_party_5 (z_swa hn0 0 3 0 (by decide)).1 (z_swa hn0 0 3 0 (by decide)).2.1 (by rw [(z_swa hn0 0 3 0 (by decide)).2.2]; rfl) (by decide) ?_
      refine lv_aload_n hx hb dX10_party_36 rfl (lv_at hl 0 rfl) ?_
      refine z_getr (o := 6) C0 hW fl_X10_28 (zk1 (hs 0 (by decide))) rfl (zk3 (hs 0 (by decide)) 2) dX10_party_37 ?_
      refine z_getr (o := 13) C0 hW fl_X10_197 (zT0 hT).1 rfl ((zT0 hT).2.1 6 (by decide)).1 dX10_party_40 ?_
      refine lv_iload_n hx hb dX10_party_43 rfl (lv_at hl 1 rfl) ?_
      replace h := z_if h
      obtain ⟨hin, h⟩ := h
      refine z_iald (n := 4) C0 hW ((zT0 hT).2.1 6 (by decide)).2.1 ((zT0 hT).2.1 6 (by decide)).2.2 hin rfl dX10_party_44 ?_
      clear hin
      refine lv_topi (fun z7 e1 => ?_)
      replace h := z_ly h e1
      clear e1
      cases h
      exact z_iretT C0 hr hlk hW hS hT dX10_party_45
    · replace h := z_f h hn0
      by_cases hn1 : a2 = (1 : Int32)
      · replace h := z_t h hn1
        refine lv_tableIn (off := 41) (tgt := 46) hx hb dX10_party_5 (z_swa hn1 0 3 1 (by decide)).1 (z_swa hn1 0 3 1 (by decide)).2.1 (by rw [(z_swa hn1 0 3 1 (by decide)).2.2]; rfl) (by decide) ?_
        refine lv_aload_n hx hb dX10_party_46 rfl (lv_at hl 0 rfl) ?_
        refine lv_iconst (v := (1 : Int32)) hx hb dX10_party_47 (by decide) ?_
        refine lv_iload_n hx hb dX10_party_48 rfl (lv_at hl 1 rfl) ?_
        refine lv_ishl hx hb dX10_party_49 ?_
        replace h := z_bd h
        obtain ⟨r6, hq, h⟩ := h
        refine z_cvi (As := [.int ((1 : Int32) <<< (a1 &&& 31))]) C0 hml hl.1 hW hS (c_X10_ridersOf l D A b G (q3) hT ((1 : Int32) <<< (a1 &&& 31)) u2 hq) mv_X10_200 (zk1 (hs 0 (by decide))) ⟨Nat.le_of_ble_eq_true rfl, Nat.le_of_ble_eq_true rfl⟩ rfl rfl (Nat.le_of_ble_eq_true rfl) dX10_party_50 (fun H locs hW hS => ?_)
        clear hq
        cases h
        exact z_iretT C0 hr hlk hW hS hT dX10_party_53
      · replace h := z_f h hn1
        by_cases hn2 : a2 = (2 : Int32)
        · replace h := z_t h hn2
          refine lv_tableIn (off := 49) (tgt := 54) hx hb dX10_party_5 (z_swa hn2 0 3 2 (by decide)).1 (z_swa hn2 0 3 2 (by decide)).2.1 (by rw [(z_swa hn2 0 3 2 (by decide)).2.2]; rfl) (by decide) ?_
          refine lv_aload_n hx hb dX10_party_54 rfl (lv_at hl 0 rfl) ?_
          refine lv_iconst (v := (1 : Int32)) hx hb dX10_party_55 (by decide) ?_
          refine lv_iload_n hx hb dX10_party_56 rfl (lv_at hl 1 rfl) ?_
          refine lv_ishl hx hb dX10_party_57 ?_
          replace h := z_bd h
          obtain ⟨r5, hq, h⟩ := h
          refine z_cvi (As := [.int ((1 : Int32) <<< (a1 &&& 31))]) C0 hml hl.1 hW hS (c_X10_seatedWeight l D A b G (q3) hT ((1 : Int32) <<< (a1 &&& 31)) u2 hq) mv_X10_203 (zk1 (hs 0 (by decide))) ⟨Nat.le_of_ble_eq_true rfl, Nat.le_of_ble_eq_true rfl⟩ rfl rfl (Nat.le_of_ble_eq_true rfl) dX10_party_58 (fun H locs hW hS => ?_)
          clear hq
          cases h
          exact z_iretT C0 hr hlk hW hS hT dX10_party_61
        · replace h := z_f h hn2
          by_cases hn3 : a2 = (3 : Int32)
          · replace h := z_t h hn3
            refine lv_tableIn (off := 57) (tgt := 62) hx hb dX10_party_5 (z_swa hn3 0 3 3 (by decide)).1 (z_swa hn3 0 3 3 (by decide)).2.1 (by rw [(z_swa hn3 0 3 3 (by decide)).2.2]; rfl) (by decide) ?_
            refine lv_aload_n hx hb dX10_party_62 rfl (lv_at hl 0 rfl) ?_
            refine lv_iconst (v := (1 : Int32)) hx hb dX10_party_63 (by decide) ?_
            refine lv_iload_n hx hb dX10_party_64 rfl (lv_at hl 1 rfl) ?_
            refine lv_ishl hx hb dX10_party_65 ?_
            replace h := z_bd h
            obtain ⟨r4, hq, h⟩ := h
            refine z_cvi (As := [.int ((1 : Int32) <<< (a1 &&& 31))]) C0 hml hl.1 hW hS (c_X10_powerOf l D A b G (q3) hT ((1 : Int32) <<< (a1 &&& 31)) u2 hq) mv_X10_206 (zk1 (hs 0 (by decide))) ⟨Nat.le_of_ble_eq_true rfl, Nat.le_of_ble_eq_true rfl⟩ rfl rfl (Nat.le_of_ble_eq_true rfl) dX10_party_66 (fun H locs hW hS => ?_)
            clear hq
            cases h
            exact z_iretT C0 hr hlk hW hS hT dX10_party_69
          · replace h := z_f h hn3
            refine lv_tableOut (tgt := 70) hx hb dX10_party_5 (z_sw 0 3 (by decide) (fun k h1 h2 => ?_)) (by decide) ?_
            · rcases (show k = 0 ∨ k = 1 ∨ k = 2 ∨ k = 3 by omega) with rfl | rfl | rfl | rfl
              · exact hn0
              · exact hn1
              · exact hn2
              · exact hn3
            · cases h
def f_X10_richest (q : zq)  (u : zU) : Option (Int32) :=
  (f_X10_richestOf (q) (((1 : Int32) <<< ((u 6 8) &&& 31)) - (1 : Int32)) u).bind (fun r1 => some r1)
theorem f_X10_richest_e (q : zq)  (u : zU) : f_X10_richest q u = (f_X10_richestOf (q) (((1 : Int32) <<< ((u 6 8) &&& 31)) - (1 : Int32)) u).bind (fun r1 => some r1) := rfl
set_option maxRecDepth 100000 in
set_option maxHeartbeats 4000000 in
theorem c_X10_richest (l : Launch) (D : zD) (A : Nat → Prop) (b : Nat) (G : zG) (q : zq) (hT : zTop G q)  (u : zU) {v : Int32} (h : f_X10_richest q u = some v) : z_M l D A b (zg G q) yX10_richest cX10_richest 1 (some .int) 1 24 [.ref (b + 0)] u (some (.int v)) u := by
  refine z_enter (by decide) (Nat.le_of_ble_eq_true rfl) ?_
  intro p e s m below meth c ls C0 hr hml hlk hW hS hl
  have hl : lv_has ls 1 [(0, .ref (b + 0))] := hl
  have hx := C0.1
  have hb := C0.2.1
  have hs := hT.1
  rw [f_X10_richest_e] at h
  refine lv_aload_n hx hb dX10_richest_0 rfl (lv_at hl 0 rfl) ?_
  refine lv_iconst (v := (1 : Int32)) hx hb dX10_richest_1 (by decide) ?_
  refine lv_aload_n hx hb dX10_richest_2 rfl (lv_at hl 0 rfl) ?_
  refine z_getr (o := 6) C0 hW fl_X10_28 (zk1 (hs 0 (by decide))) rfl (zk3 (hs 0 (by decide)) 2) dX10_richest_3 ?_
  refine z_geti C0 hW fl_X10_221 (zT0 hT).1 rfl dX10_richest_6 ?_
  refine lv_ishl hx hb dX10_richest_9 ?_
  refine lv_iconst (v := (1 : Int32)) hx hb dX10_richest_10 (by decide) ?_
  refine lv_isub hx hb dX10_richest_11 ?_
  replace h := z_bd h
  obtain ⟨r1, hq, h⟩ := h
  refine z_cvi (As := [.int (((1 : Int32) <<< ((u 6 8) &&& 31)) - (1 : Int32))]) C0 hml hl.1 hW hS (c_X10_richestOf l D A b G (q) hT (((1 : Int32) <<< ((u 6 8) &&& 31)) - (1 : Int32)) u hq) mv_X10_224 (zk1 (hs 0 (by decide))) ⟨Nat.le_of_ble_eq_true rfl, Nat.le_of_ble_eq_true rfl⟩ rfl rfl (Nat.le_of_ble_eq_true rfl) dX10_richest_12 (fun H locs hW hS => ?_)
  clear hq
  cases h
  exact z_iret C0 hr hlk hW hS dX10_richest_15
def f_X10_pairs_22 (q : zq) (K : Int32 → Int32 → Option (Int32)) : Nat → Int32 → Int32 → Int32 → Int32 → zU → Option (Int32)
  | 0, _, _, _, _, _ => none
  | n + 1, x1, x2, x3, x4, u =>
    if (4 : Int32) ≤ x4 then (K x1 (x2 + (1 : Int32))) else ((f_X10_ridersOf (q) ((1 : Int32) <<< (x4 &&& 31)) u).bind (fun r2 => z_let (f_J6_bitCount_0f7a4 (x3 &&& r2) u) (fun r3 => if r3 = (2 : Int32) then (f_X10_pairs_22 q K n (x1 + (1 : Int32)) x2 x3 (x4 + (1 : Int32)) u) else (f_X10_pairs_22 q K n x1 x2 x3 (x4 + (1 : Int32)) u))))
theorem f_X10_pairs_22_s (q : zq) (K : Int32 → Int32 → Option (Int32)) (n : Nat) (x1 : Int32) (x2 : Int32) (x3 : Int32) (x4 : Int32) (u : zU) : f_X10_pairs_22 q K (n + 1) x1 x2 x3 x4 u = if (4 : Int32) ≤ x4 then (K x1 (x2 + (1 : Int32))) else ((f_X10_ridersOf (q) ((1 : Int32) <<< (x4 &&& 31)) u).bind (fun r2 => z_let (f_J6_bitCount_0f7a4 (x3 &&& r2) u) (fun r3 => if r3 = (2 : Int32) then (f_X10_pairs_22 q K n (x1 + (1 : Int32)) x2 x3 (x4 + (1 : Int32)) u) else (f_X10_pairs_22 q K n x1 x2 x3 (x4 + (1 : Int32)) u)))) := rfl
def f_X10_pairs_4 (q : zq) : Nat → Int32 → Int32 → zU → Option (Int32)
  | 0, _, _, _ => none
  | n + 1, x1, x2, u =>
    if (8 : Int32) ≤ x2 then (some x1) else ((f_X9_ridersIn 6 (q 0) x2 u).bind (fun r1 => f_X10_pairs_22 q (fun k1 k2 => f_X10_pairs_4 q n k1 k2 u) 5000 x1 x2 r1 (0 : Int32) u))
theorem f_X10_pairs_4_s (q : zq) (n : Nat) (x1 : Int32) (x2 : Int32) (u : zU) : f_X10_pairs_4 q (n + 1) x1 x2 u = if (8 : Int32) ≤ x2 then (some x1) else ((f_X9_ridersIn 6 (q 0) x2 u).bind (fun r1 => f_X10_pairs_22 q (fun k1 k2 => f_X10_pairs_4 q n k1 k2 u) 5000 x1 x2 r1 (0 : Int32) u)) := rfl
def f_X10_pairs (q : zq)  (u : zU) : Option (Int32) :=
  f_X10_pairs_4 q 5000 (0 : Int32) (0 : Int32) u
set_option maxRecDepth 100000 in
set_option maxHeartbeats 4000000 in
theorem l_X10_pairs_22 {l : Launch} {D : zD} {A : Nat → Prop} {b : Nat} {p : Program} {e : Env} {s : State} {m : MethodId} {args : Array Value} {below : List Frame} {meth : Method} {c : Code} {G : zG} {q : zq} {v : Int32} {u : zU} {K : Int32 → Int32 → Option (Int32)} (C0 : z_C p c cX10_pairs s m args yX10_pairs.cls D A) (hr : meth.sig.returnType = (some .int)) (hml : c.maxLocals = 5) (hlk : meth.locks = false) (hT : zTop G q) (hK : ∀ (x1 : Int32) (x2 : Int32) (H : Heap) (locs : List Loc) (ls : Array Slot), K x1 x2 = some v → z_W D A b (zg G q) u H → va_S A s.heap H locs → lv_has ls 5 [(0, .ref (b + 0)), (1, .int x1), (2, .int x2)] → W p l e { frames := 1, cells := 0, slots := 0, locals := 23 } s m args below meth c H locs 0 0 (z_End D A b (zg G q) below args s (some (.int v)) u) (F0 m 4 ls [])) : ∀ (n : Nat) (x1 : Int32) (x2 : Int32) (x3 : Int32) (x4 : Int32) (H : Heap) (locs : List Loc) (ls : Array Slot), f_X10_pairs_22 q K n x1 x2 x3 x4 u = some v → z_W D A b (zg G q) u H → va_S A s.heap H locs → lv_has ls 5 [(0, .ref (b + 0)), (1, .int x1), (2, .int x2), (3, .int x3), (4, .int x4)] → W p l e { frames := 1, cells := 0, slots := 0, locals := 23 } s m args below meth c H locs 0 0 (z_End D A b (zg G q) below args s (some (.int v)) u) (F0 m 22 ls []) := by
  have hx := C0.1
  have hb := C0.2.1
  have hs := hT.1
  intro n
  induction n with
  | zero => intro x1 x2 x3 x4 H locs ls h hW hS hl; cases h
  | succ n ih =>
    intro x1 x2 x3 x4 H locs ls h hW hS hl
    rw [f_X10_pairs_22_s] at h
    refine lv_iload hx hb dX10_pairs_22 (lv_at hl 4 rfl) ?_
    refine lv_iconst (v := (4 : Int32)) hx hb dX10_pairs_24 (by decide) ?_
    refine lv_icmp_ge (tgt := 54) hx hb dX10_pairs_25 (by decide) (fun hc => ?_) (fun hc => ?_)
    · replace h := z_t h hc
      clear hc
      refine lv_iinc (v := x2 + (1 : Int32)) (lv' := [(2, .int (x2 + (1 : Int32))), (0, .ref (b + 0)), (1, .int x1), (3, .int x3), (4, .int x4)]) hx hb dX10_pairs_54 hl (k := 2) rfl rfl (by decide) rfl (fun ls hl => ?_)
      refine lv_goto (tgt := 4) hx hb dX10_pairs_57 (by decide) ?_
      exact hK _ _ _ _ _ h hW hS (lv_sub hl [1, 2, 0] rfl)
    · replace h := z_f h hc
      clear hc
      refine lv_iload_n hx hb dX10_pairs_28 rfl (lv_at hl 3 rfl) ?_
      refine lv_aload_n hx hb dX10_pairs_29 rfl (lv_at hl 0 rfl) ?_
      refine lv_iconst (v := (1 : Int32)) hx hb dX10_pairs_30 (by decide) ?_
      refine lv_iload hx hb dX10_pairs_31 (lv_at hl 4 rfl) ?_
      refine lv_ishl hx hb dX10_pairs_33 ?_
      replace h := z_bd h
      obtain ⟨r2, hq, h⟩ := h
      refine z_cvi (As := [.int ((1 : Int32) <<< (x4 &&& 31))]) C0 hml hl.1 hW hS (c_X10_ridersOf l D A b G (q) hT ((1 : Int32) <<< (x4 &&& 31)) u hq) mv_X10_200 (zk1 (hs 0 (by decide))) ⟨Nat.le_of_ble_eq_true rfl, Nat.le_of_ble_eq_true rfl⟩ rfl rfl (Nat.le_of_ble_eq_true rfl) dX10_pairs_34 (fun H locs hW hS => ?_)
      clear hq
      refine lv_iand hx hb dX10_pairs_37 ?_
      obtain ⟨r3, hq⟩ : ∃ y, f_J6_bitCount_0f7a4 (x3 &&& r2) u = y := ⟨_, rfl⟩
      replace h := z_lz h hq
      refine z_csi (As := [.int (x3 &&& r2)]) C0 hml hl.1 hW hS (c_J6_bitCount_0f7a4 l D A b (zg G q) (x3 &&& r2) u hq) ms_X10_231 ⟨Nat.le_of_ble_eq_true rfl, Nat.le_of_ble_eq_true rfl⟩ rfl rfl (Nat.le_of_ble_eq_true rfl) dX10_pairs_38 (fun H locs hW hS => ?_)
      clear hq
      refine lv_iconst (v := (2 : Int32)) hx hb dX10_pairs_41 (by decide) ?_
      refine lv_icmp_ne (tgt := 48) hx hb dX10_pairs_42 (by decide) (fun hc => ?_) (fun hc => ?_)
      · replace h := z_f h hc
        clear hc
        refine lv_iinc (v := x4 + (1 : Int32)) (lv' := [(4, .int (x4 + (1 : Int32))), (0, .ref (b + 0)), (1, .int x1), (2, .int x2), (3, .int x3)]) hx hb dX10_pairs_48 hl (k := 4) rfl rfl (by decide) rfl (fun ls hl => ?_)
        refine lv_goto (tgt := 22) hx hb dX10_pairs_51 (by decide) ?_
        exact ih _ _ _ _ _ _ _ h hW hS (lv_sub hl [1, 2, 3, 4, 0] rfl)
      · replace h := z_t h hc
        clear hc
        refine lv_iinc (v := x1 + (1 : Int32)) (lv' := [(1, .int (x1 + (1 : Int32))), (0, .ref (b + 0)), (2, .int x2), (3, .int x3), (4, .int x4)]) hx hb dX10_pairs_45 hl (k := 1) rfl rfl (by decide) rfl (fun ls hl => ?_)
        refine lv_iinc (v := x4 + (1 : Int32)) (lv' := [(4, .int (x4 + (1 : Int32))), (1, .int (x1 + (1 : Int32))), (0, .ref (b + 0)), (2, .int x2), (3, .int x3)]) hx hb dX10_pairs_48 hl (k := 4) rfl rfl (by decide) rfl (fun ls hl => ?_)
        refine lv_goto (tgt := 22) hx hb dX10_pairs_51 (by decide) ?_
        exact ih _ _ _ _ _ _ _ h hW hS (lv_sub hl [2, 1, 3, 4, 0] rfl)
set_option maxRecDepth 100000 in
set_option maxHeartbeats 4000000 in
theorem l_X10_pairs_4 {l : Launch} {D : zD} {A : Nat → Prop} {b : Nat} {p : Program} {e : Env} {s : State} {m : MethodId} {args : Array Value} {below : List Frame} {meth : Method} {c : Code} {G : zG} {q : zq} {v : Int32} {u : zU} (C0 : z_C p c cX10_pairs s m args yX10_pairs.cls D A) (hr : meth.sig.returnType = (some .int)) (hml : c.maxLocals = 5) (hlk : meth.locks = false) (hT : zTop G q) : ∀ (n : Nat) (x1 : Int32) (x2 : Int32) (H : Heap) (locs : List Loc) (ls : Array Slot), f_X10_pairs_4 q n x1 x2 u = some v → z_W D A b (zg G q) u H → va_S A s.heap H locs → lv_has ls 5 [(0, .ref (b + 0)), (1, .int x1), (2, .int x2)] → W p l e { frames := 1, cells := 0, slots := 0, locals := 23 } s m args below meth c H locs 0 0 (z_End D A b (zg G q) below args s (some (.int v)) u) (F0 m 4 ls []) := by
  have hx := C0.1
  have hb := C0.2.1
  have hs := hT.1
  intro n
  induction n with
  | zero => intro x1 x2 H locs ls h hW hS hl; cases h
  | succ n ih =>
    intro x1 x2 H locs ls h hW hS hl
    rw [f_X10_pairs_4_s] at h
    refine lv_iload_n hx hb dX10_pairs_4 rfl (lv_at hl 2 rfl) ?_
    refine lv_bipush (v := (8 : Int32)) hx hb dX10_pairs_5 (by decide) ?_
    refine lv_icmp_ge (tgt := 60) hx hb dX10_pairs_7 (by decide) (fun hc => ?_) (fun hc => ?_)
    · replace h := z_t h hc
      clear hc
      refine lv_iload_n hx hb dX10_pairs_60 rfl (lv_at hl 1 rfl) ?_
      cases h
      exact z_iret C0 hr hlk hW hS dX10_pairs_61
    · replace h := z_f h hc
      clear hc
      refine lv_aload_n hx hb dX10_pairs_10 rfl (lv_at hl 0 rfl) ?_
      refine z_getr (o := 6) C0 hW fl_X10_28 (zk1 (hs 0 (by decide))) rfl (zk3 (hs 0 (by decide)) 2) dX10_pairs_11 ?_
      refine lv_iload_n hx hb dX10_pairs_14 rfl (lv_at hl 2 rfl) ?_
      replace h := z_bd h
      obtain ⟨r1, hq, h⟩ := h
      refine z_cvi (As := [.int x2]) C0 hml hl.1 hW hS (c_X9_ridersIn l D A b (zg G q) 6 (q 0) (zT0 hT) x2 u hq) mv_X10_180 (zT0 hT).1 ⟨Nat.le_of_ble_eq_true rfl, Nat.le_of_ble_eq_true rfl⟩ rfl rfl (Nat.le_of_ble_eq_true rfl) dX10_pairs_15 (fun H locs hW hS => ?_)
      clear hq
      refine lv_istore_n (lv' := [(3, .int r1), (0, .ref (b + 0)), (1, .int x1), (2, .int x2)]) hx hb dX10_pairs_18 rfl hl (by decide) rfl (fun ls hl => ?_)
      refine lv_iconst (v := (0 : Int32)) hx hb dX10_pairs_19 (by decide) ?_
      refine lv_istore (lv' := [(4, .int (0 : Int32)), (3, .int r1), (0, .ref (b + 0)), (1, .int x1), (2, .int x2)]) hx hb dX10_pairs_20 hl (by decide) rfl (fun ls hl => ?_)
      exact l_X10_pairs_22 C0 hr hml hlk hT (fun q0 q1 q2 q3 q4 h hW hS hl => ih q0 q1 q2 q3 q4 h hW hS hl) 5000 _ _ _ _ _ _ _ h hW hS (lv_sub hl [2, 3, 4, 1, 0] rfl)
theorem f_X10_pairs_e (q : zq)  (u : zU) : f_X10_pairs q u = f_X10_pairs_4 q 5000 (0 : Int32) (0 : Int32) u := rfl
set_option maxRecDepth 100000 in
set_option maxHeartbeats 4000000 in
theorem c_X10_pairs (l : Launch) (D : zD) (A : Nat → Prop) (b : Nat) (G : zG) (q : zq) (hT : zTop G q)  (u : zU) {v : Int32} (h : f_X10_pairs q u = some v) : z_M l D A b (zg G q) yX10_pairs cX10_pairs 5 (some .int) 1 23 [.ref (b + 0)] u (some (.int v)) u := by
  refine z_enter (by decide) (Nat.le_of_ble_eq_true rfl) ?_
  intro p e s m below meth c ls C0 hr hml hlk hW hS hl
  have hl : lv_has ls 5 [(0, .ref (b + 0))] := hl
  have hx := C0.1
  have hb := C0.2.1
  have hs := hT.1
  rw [f_X10_pairs_e] at h
  refine lv_iconst (v := (0 : Int32)) hx hb dX10_pairs_0 (by decide) ?_
  refine lv_istore_n (lv' := [(1, .int (0 : Int32)), (0, .ref (b + 0))]) hx hb dX10_pairs_1 rfl hl (by decide) rfl (fun ls hl => ?_)
  refine lv_iconst (v := (0 : Int32)) hx hb dX10_pairs_2 (by decide) ?_
  refine lv_istore_n (lv' := [(2, .int (0 : Int32)), (1, .int (0 : Int32)), (0, .ref (b + 0))]) hx hb dX10_pairs_3 rfl hl (by decide) rfl (fun ls hl => ?_)
  exact l_X10_pairs_4 C0 hr hml hlk hT 5000 _ _ _ _ _ h hW hS (lv_sub hl [2, 1, 0] rfl)
def f_X10_count (q : zq) (a1 : Int32) (u : zU) : Option (Int32) :=
  if a1 = (0 : Int32) then (some (u 6 8)) else (if a1 = (1 : Int32) then (some (u 0 10)) else (if a1 = (2 : Int32) then (some (u ((@q 0) 0) 0)) else (if a1 = (3 : Int32) then (some (u 6 15)) else (if a1 = (4 : Int32) then (some (u 6 14)) else (if a1 = (5 : Int32) then (some (u 6 10)) else (if a1 = (6 : Int32) then (some (u 6 11)) else (if a1 = (7 : Int32) then (some (u 6 12)) else (if a1 = (8 : Int32) then (some (u 6 13)) else (if a1 = (9 : Int32) then (some (u 6 9)) else (if a1 = (10 : Int32) then ((f_X10_closedCradles (q) u).bind (fun r3 => some r3)) else (if a1 = (11 : Int32) then ((f_X10_allPurses (q) u).bind (fun r2 => some r2)) else (if a1 = (12 : Int32) then ((f_X10_allBolts (q) u).bind (fun r1 => some r1)) else (if a1 = (13 : Int32) then (some (u 36 2)) else (if a1 = (14 : Int32) then (some (u 38 2)) else (some (-1 : Int32))))))))))))))))
theorem f_X10_count_e (q : zq) (a1 : Int32) (u : zU) : f_X10_count q a1 u = if a1 = (0 : Int32) then (some (u 6 8)) else (if a1 = (1 : Int32) then (some (u 0 10)) else (if a1 = (2 : Int32) then (some (u ((@q 0) 0) 0)) else (if a1 = (3 : Int32) then (some (u 6 15)) else (if a1 = (4 : Int32) then (some (u 6 14)) else (if a1 = (5 : Int32) then (some (u 6 10)) else (if a1 = (6 : Int32) then (some (u 6 11)) else (if a1 = (7 : Int32) then (some (u 6 12)) else (if a1 = (8 : Int32) then (some (u 6 13)) else (if a1 = (9 : Int32) then (some (u 6 9)) else (if a1 = (10 : Int32) then ((f_X10_closedCradles (q) u).bind (fun r3 => some r3)) else (if a1 = (11 : Int32) then ((f_X10_allPurses (q) u).bind (fun r2 => some r2)) else (if a1 = (12 : Int32) then ((f_X10_allBolts (q) u).bind (fun r1 => some r1)) else (if a1 = (13 : Int32) then (some (u 36 2)) else (if a1 = (14 : Int32) then (some (u 38 2)) else (some (-1 : Int32)))))))))))))))) := rfl
set_option maxRecDepth 100000 in
set_option maxHeartbeats 4000000 in
theorem c_X10_count (l : Launch) (D : zD) (A : Nat → Prop) (b : Nat) (G : zG) (q : zq) (hT : zTop G q) (a1 : Int32) (u : zU) {v : Int32} (h : f_X10_count q a1 u = some v) : z_M l D A b (zg G q) yX10_count cX10_count 2 (some .int) 1 22 [.ref (b + 0), .int a1] u (some (.int v)) u := by
  refine z_enter (by decide) (Nat.le_of_ble_eq_true rfl) ?_
  intro p e s m below meth c ls C0 hr hml hlk hW hS hl
  have hl : lv_has ls 2 [(0, .ref (b + 0)), (1, .int a1)] := hl
  have hx := C0.1
  have hb := C0.2.1
  have hs := hT.1
  rw [f_X10_count_e] at h
  refine lv_iload_n hx hb dX10_count_0 rfl (lv_at hl 1 rfl) ?_
  by_cases hn0 : a1 = (0 : Int32)
  · replace h := z_t h hn0
    refine lv_tableIn (off := 75) (tgt := 76) hx hb dX10_count_1 (z_swa hn0 0 14 0 (by decide)).1 (z_swa hn0 0 14 0 (by decide)).2.1 (by rw [(z_swa hn0 0 14 0 (by decide)).2.2]; rfl) (by decide) ?_
    refine lv_aload_n hx hb dX10_count_76 rfl (lv_at hl 0 rfl) ?_
    refine z_getr (o := 6) C0 hW fl_X10_28 (zk1 (hs 0 (by decide))) rfl (zk3 (hs 0 (by decide)) 2) dX10_count_77 ?_
    refine z_geti C0 hW fl_X10_221 (zT0 hT).1 rfl dX10_count_80 ?_
    cases h
    exact z_iret C0 hr hlk hW hS dX10_count_83
  · replace h := z_f h hn0
    by_cases hn1 : a1 = (1 : Int32)
    · replace h := z_t h hn1
      refine lv_tableIn (off := 83) (tgt := 84) hx hb dX10_count_1 (z_swa hn1 0 14 1 (by decide)).1 (z_swa hn1 0 14 1 (by decide)).2.1 (by rw [(z_swa hn1 0 14 1 (by decide)).2.2]; rfl) (by decide) ?_
      refine lv_aload_n hx hb dX10_count_84 rfl (lv_at hl 0 rfl) ?_
      refine z_geti C0 hW fl_X10_78 (zk1 (hs 0 (by decide))) rfl dX10_count_85 ?_
      cases h
      exact z_iret C0 hr hlk hW hS dX10_count_88
    · replace h := z_f h hn1
      by_cases hn2 : a1 = (2 : Int32)
      · replace h := z_t h hn2
        refine lv_tableIn (off := 88) (tgt := 89) hx hb dX10_count_1 (z_swa hn2 0 14 2 (by decide)).1 (z_swa hn2 0 14 2 (by decide)).2.1 (by rw [(z_swa hn2 0 14 2 (by decide)).2.2]; rfl) (by decide) ?_
        refine lv_aload_n hx hb dX10_count_89 rfl (lv_at hl 0 rfl) ?_
        refine z_getr (o := 6) C0 hW fl_X10_28 (zk1 (hs 0 (by decide))) rfl (zk3 (hs 0 (by decide)) 2) dX10_count_90 ?_
        refine z_getr (o := (q 0) 0) C0 hW fl_X10_121 (zT0 hT).1 rfl (zT0 hT).2.2.1 dX10_count_93 ?_
        refine z_geti C0 hW fl_X10_125 (zT0 hT).2.2.2.1 rfl dX10_count_96 ?_
        cases h
        exact z_iret C0 hr hlk hW hS dX10_count_99
      · replace h := z_f h hn2
        by_cases hn3 : a1 = (3 : Int32)
        · replace h := z_t h hn3
          refine lv_tableIn (off := 99) (tgt := 100) hx hb dX10_count_1 (z_swa hn3 0 14 3 (by decide)).1 (z_swa hn3 0 14 3 (by decide)).2.1 (by rw [(z_swa hn3 0 14 3 (by decide)).2.2]; rfl) (by decide) ?_
          refine lv_aload_n hx hb dX10_count_100 rfl (lv_at hl 0 rfl) ?_
          refine z_getr (o := 6) C0 hW fl_X10_28 (zk1 (hs 0 (by decide))) rfl (zk3 (hs 0 (by decide)) 2) dX10_count_101 ?_
          refine z_geti C0 hW fl_X10_236 (zT0 hT).1 rfl dX10_count_104 ?_
          cases h
          exact z_iret C0 hr hlk hW hS dX10_count_107
        · replace h := z_f h hn3
          by_cases hn4 : a1 = (4 : Int32)
          · replace h := z_t h hn4
            refine lv_tableIn (off := 107) (tgt := 108) hx hb dX10_count_1 (z_swa hn4 0 14 4 (by decide)).1 (z_swa hn4 0 14 4 (by decide)).2.1 (by rw [(z_swa hn4 0 14 4 (by decide)).2.2]; rfl) (by decide) ?_
            refine lv_aload_n hx hb dX10_count_108 rfl (lv_at hl 0 rfl) ?_
            refine z_getr (o := 6) C0 hW fl_X10_28 (zk1 (hs 0 (by decide))) rfl (zk3 (hs 0 (by decide)) 2) dX10_count_109 ?_
            refine z_geti C0 hW fl_X10_211 (zT0 hT).1 rfl dX10_count_112 ?_
            cases h
            exact z_iret C0 hr hlk hW hS dX10_count_115
          · replace h := z_f h hn4
            by_cases hn5 : a1 = (5 : Int32)
            · replace h := z_t h hn5
              refine lv_tableIn (off := 115) (tgt := 116) hx hb dX10_count_1 (z_swa hn5 0 14 5 (by decide)).1 (z_swa hn5 0 14 5 (by decide)).2.1 (by rw [(z_swa hn5 0 14 5 (by decide)).2.2]; rfl) (by decide) ?_
              refine lv_aload_n hx hb dX10_count_116 rfl (lv_at hl 0 rfl) ?_
              refine z_getr (o := 6) C0 hW fl_X10_28 (zk1 (hs 0 (by decide))) rfl (zk3 (hs 0 (by decide)) 2) dX10_count_117 ?_
              refine z_geti C0 hW fl_X10_152 (zT0 hT).1 rfl dX10_count_120 ?_
              cases h
              exact z_iret C0 hr hlk hW hS dX10_count_123
            · replace h := z_f h hn5
              by_cases hn6 : a1 = (6 : Int32)
              · replace h := z_t h hn6
                refine lv_tableIn (off := 123) (tgt := 124) hx hb dX10_count_1 (z_swa hn6 0 14 6 (by decide)).1 (z_swa hn6 0 14 6 (by decide)).2.1 (by rw [(z_swa hn6 0 14 6 (by decide)).2.2]; rfl) (by decide) ?_
                refine lv_aload_n hx hb dX10_count_124 rfl (lv_at hl 0 rfl) ?_
                refine z_getr (o := 6) C0 hW fl_X10_28 (zk1 (hs 0 (by decide))) rfl (zk3 (hs 0 (by decide)) 2) dX10_count_125 ?_
                refine z_geti C0 hW fl_X10_239 (zT0 hT).1 rfl dX10_count_128 ?_
                cases h
                exact z_iret C0 hr hlk hW hS dX10_count_131
              · replace h := z_f h hn6
                by_cases hn7 : a1 = (7 : Int32)
                · replace h := z_t h hn7
                  refine lv_tableIn (off := 131) (tgt := 132) hx hb dX10_count_1 (z_swa hn7 0 14 7 (by decide)).1 (z_swa hn7 0 14 7 (by decide)).2.1 (by rw [(z_swa hn7 0 14 7 (by decide)).2.2]; rfl) (by decide) ?_
                  refine lv_aload_n hx hb dX10_count_132 rfl (lv_at hl 0 rfl) ?_
                  refine z_getr (o := 6) C0 hW fl_X10_28 (zk1 (hs 0 (by decide))) rfl (zk3 (hs 0 (by decide)) 2) dX10_count_133 ?_
                  refine z_geti C0 hW fl_X10_242 (zT0 hT).1 rfl dX10_count_136 ?_
                  cases h
                  exact z_iret C0 hr hlk hW hS dX10_count_139
                · replace h := z_f h hn7
                  by_cases hn8 : a1 = (8 : Int32)
                  · replace h := z_t h hn8
                    refine lv_tableIn (off := 139) (tgt := 140) hx hb dX10_count_1 (z_swa hn8 0 14 8 (by decide)).1 (z_swa hn8 0 14 8 (by decide)).2.1 (by rw [(z_swa hn8 0 14 8 (by decide)).2.2]; rfl) (by decide) ?_
                    refine lv_aload_n hx hb dX10_count_140 rfl (lv_at hl 0 rfl) ?_
                    refine z_getr (o := 6) C0 hW fl_X10_28 (zk1 (hs 0 (by decide))) rfl (zk3 (hs 0 (by decide)) 2) dX10_count_141 ?_
                    refine z_geti C0 hW fl_X10_245 (zT0 hT).1 rfl dX10_count_144 ?_
                    cases h
                    exact z_iret C0 hr hlk hW hS dX10_count_147
                  · replace h := z_f h hn8
                    by_cases hn9 : a1 = (9 : Int32)
                    · replace h := z_t h hn9
                      refine lv_tableIn (off := 147) (tgt := 148) hx hb dX10_count_1 (z_swa hn9 0 14 9 (by decide)).1 (z_swa hn9 0 14 9 (by decide)).2.1 (by rw [(z_swa hn9 0 14 9 (by decide)).2.2]; rfl) (by decide) ?_
                      refine lv_aload_n hx hb dX10_count_148 rfl (lv_at hl 0 rfl) ?_
                      refine z_getr (o := 6) C0 hW fl_X10_28 (zk1 (hs 0 (by decide))) rfl (zk3 (hs 0 (by decide)) 2) dX10_count_149 ?_
                      refine z_geti C0 hW fl_X10_248 (zT0 hT).1 rfl dX10_count_152 ?_
                      cases h
                      exact z_iret C0 hr hlk hW hS dX10_count_155
                    · replace h := z_f h hn9
                      by_cases hn10 : a1 = (10 : Int32)
                      · replace h := z_t h hn10
                        refine lv_tableIn (off := 155) (tgt := 156) hx hb dX10_count_1 (z_swa hn10 0 14 10 (by decide)).1 (z_swa hn10 0 14 10 (by decide)).2.1 (by rw [(z_swa hn10 0 14 10 (by decide)).2.2]; rfl) (by decide) ?_
                        refine lv_aload_n hx hb dX10_count_156 rfl (lv_at hl 0 rfl) ?_
                        replace h := z_bd h
                        obtain ⟨r3, hq, h⟩ := h
                        refine z_cvi (As := []) C0 hml hl.1 hW hS (c_X10_closedCradles l D A b G (q) hT u hq) mv_X10_251 (zk1 (hs 0 (by decide))) ⟨Nat.le_of_ble_eq_true rfl, Nat.le_of_ble_eq_true rfl⟩ rfl rfl (Nat.le_of_ble_eq_true rfl) dX10_count_157 (fun H locs hW hS => ?_)
                        clear hq
                        cases h
                        exact z_iret C0 hr hlk hW hS dX10_count_160
                      · replace h := z_f h hn10
                        by_cases hn11 : a1 = (11 : Int32)
                        · replace h := z_t h hn11
                          refine lv_tableIn (off := 160) (tgt := 161) hx hb dX10_count_1 (z_swa hn11 0 14 11 (by decide)).1 (z_swa hn11 0 14 11 (by decide)).2.1 (by rw [(z_swa hn11 0 14 11 (by decide)).2.2]; rfl) (by decide) ?_
                          refine lv_aload_n hx hb dX10_count_161 rfl (lv_at hl 0 rfl) ?_
                          replace h := z_bd h
                          obtain ⟨r2, hq, h⟩ := h
                          refine z_cvi (As := []) C0 hml hl.1 hW hS (c_X10_allPurses l D A b G (q) hT u hq) mv_X10_254 (zk1 (hs 0 (by decide))) ⟨Nat.le_of_ble_eq_true rfl, Nat.le_of_ble_eq_true rfl⟩ rfl rfl (Nat.le_of_ble_eq_true rfl) dX10_count_162 (fun H locs hW hS => ?_)
                          clear hq
                          cases h
                          exact z_iret C0 hr hlk hW hS dX10_count_165
                        · replace h := z_f h hn11
                          by_cases hn12 : a1 = (12 : Int32)
                          · replace h := z_t h hn12
                            refine lv_tableIn (off := 165) (tgt := 166) hx hb dX10_count_1 (z_swa hn12 0 14 12 (by decide)).1 (z_swa hn12 0 14 12 (by decide)).2.1 (by rw [(z_swa hn12 0 14 12 (by decide)).2.2]; rfl) (by decide) ?_
                            refine lv_aload_n hx hb dX10_count_166 rfl (lv_at hl 0 rfl) ?_
                            replace h := z_bd h
                            obtain ⟨r1, hq, h⟩ := h
                            refine z_cvi (As := []) C0 hml hl.1 hW hS (c_X10_allBolts l D A b G (q) hT u hq) mv_X10_257 (zk1 (hs 0 (by decide))) ⟨Nat.le_of_ble_eq_true rfl, Nat.le_of_ble_eq_true rfl⟩ rfl rfl (Nat.le_of_ble_eq_true rfl) dX10_count_167 (fun H locs hW hS => ?_)
                            clear hq
                            cases h
                            exact z_iret C0 hr hlk hW hS dX10_count_170
                          · replace h := z_f h hn12
                            by_cases hn13 : a1 = (13 : Int32)
                            · replace h := z_t h hn13
                              refine lv_tableIn (off := 170) (tgt := 171) hx hb dX10_count_1 (z_swa hn13 0 14 13 (by decide)).1 (z_swa hn13 0 14 13 (by decide)).2.1 (by rw [(z_swa hn13 0 14 13 (by decide)).2.2]; rfl) (by decide) ?_
                              refine lv_aload_n hx hb dX10_count_171 rfl (lv_at hl 0 rfl) ?_
                              refine z_getr (o := 36) C0 hW fl_X10_56 (zk1 (hs 0 (by decide))) rfl (zk3 (hs 0 (by decide)) 6) dX10_count_172 ?_
                              refine z_geti C0 hW fl_X10_260 hT.2.2.1.1 rfl dX10_count_175 ?_
                              cases h
                              exact z_iret C0 hr hlk hW hS dX10_count_178
                            · replace h := z_f h hn13
                              by_cases hn14 : a1 = (14 : Int32)
                              · replace h := z_t h hn14
                                refine lv_tableIn (off := 178) (tgt := 179) hx hb dX10_count_1 (z_swa hn14 0 14 14 (by decide)).1 (z_swa hn14 0 14 14 (by decide)).2.1 (by rw [(z_swa hn14 0 14 14 (by decide)).2.2]; rfl) (by decide) ?_
                                refine lv_aload_n hx hb dX10_count_179 rfl (lv_at hl 0 rfl) ?_
                                refine z_getr (o := 38) C0 hW fl_X10_63 (zk1 (hs 0 (by decide))) rfl (zk3 (hs 0 (by decide)) 7) dX10_count_180 ?_
                                refine z_geti C0 hW fl_X10_263 (zk1 (hs 38 (by decide))) rfl dX10_count_183 ?_
                                cases h
                                exact z_iret C0 hr hlk hW hS dX10_count_186
                              · replace h := z_f h hn14
                                refine lv_tableOut (tgt := 187) hx hb dX10_count_1 (z_sw 0 14 (by decide) (fun k h1 h2 => ?_)) (by decide) ?_
                                · rcases (show k = 0 ∨ k = 1 ∨ k = 2 ∨ k = 3 ∨ k = 4 ∨ k = 5 ∨ k = 6 ∨ k = 7 ∨ k = 8 ∨ k = 9 ∨ k = 10 ∨ k = 11 ∨ k = 12 ∨ k = 13 ∨ k = 14 by omega) with rfl | rfl | rfl | rfl | rfl | rfl | rfl | rfl | rfl | rfl | rfl | rfl | rfl | rfl | rfl
                                  · exact hn0
                                  · exact hn1
                                  · exact hn2
                                  · exact hn3
                                  · exact hn4
                                  · exact hn5
                                  · exact hn6
                                  · exact hn7
                                  · exact hn8
                                  · exact hn9
                                  · exact hn10
                                  · exact hn11
                                  · exact hn12
                                  · exact hn13
                                  · exact hn14
                                · refine lv_iconst (v := (-1 : Int32)) hx hb dX10_count_187 (by decide) ?_
                                  cases h
                                  exact z_iret C0 hr hlk hW hS dX10_count_188
def f_X10_board (q : zq) (a1 : Int32) (a2 : Int32) (u : zU) : Option ((String ⊕ Int32) × zq × zU) :=
  z_bx (f_X10_needRider (q) a1 u) (fun w1 q3 u2 => z_bx (f_X10_needCradle (q3) a2 u2) (fun w4 q6 u5 => if z_in a1 8 = true then (z_let (u5 7 (a1).toNatClampNeg) (fun z7 => if z7 = (-1 : Int32) then ((f_X9_isOpen 6 (q6 0) a2 u5).bind (fun t8 => if t8 = true then (z_b3 (f_X10_rememberAct (q6) u5) (fun w9 q11 u10 => (f_X9_getIn 6 (q11 0) a1 a2 u10).bind (fun u12 => (f_X9_ridersIn 6 (q11 0) a2 u12).bind (fun r13 => z_let (f_J6_bitCount_0f7a4 r13 u12) (fun r14 => some (.inr r14, q11, u12)))))) else (some (.inl "java/lang/IllegalStateException", q6, u5)))) else (some (.inl "java/lang/IllegalStateException", q6, u5)))) else none))
theorem f_X10_board_e (q : zq) (a1 : Int32) (a2 : Int32) (u : zU) : f_X10_board q a1 a2 u = z_bx (f_X10_needRider (q) a1 u) (fun w1 q3 u2 => z_bx (f_X10_needCradle (q3) a2 u2) (fun w4 q6 u5 => if z_in a1 8 = true then (z_let (u5 7 (a1).toNatClampNeg) (fun z7 => if z7 = (-1 : Int32) then ((f_X9_isOpen 6 (q6 0) a2 u5).bind (fun t8 => if t8 = true then (z_b3 (f_X10_rememberAct (q6) u5) (fun w9 q11 u10 => (f_X9_getIn 6 (q11 0) a1 a2 u10).bind (fun u12 => (f_X9_ridersIn 6 (q11 0) a2 u12).bind (fun r13 => z_let (f_J6_bitCount_0f7a4 r13 u12) (fun r14 => some (.inr r14, q11, u12)))))) else (some (.inl "java/lang/IllegalStateException", q6, u5)))) else (some (.inl "java/lang/IllegalStateException", q6, u5)))) else none)) := rfl
set_option maxRecDepth 100000 in
set_option maxHeartbeats 4000000 in
theorem c_X10_board (l : Launch) (D : zD) (A : Nat → Prop) (b : Nat) (G : zG) (q : zq) (hT : zTop G q) (a1 : Int32) (a2 : Int32) (u : zU) {v : Int32} {q' : zq} {u' : zU} (h : f_X10_board q a1 a2 u = some (.inr v, q', u')) : z_MT l D A b G yX10_board cX10_board 3 (some .int) 7 128 [.ref (b + 0), .int a1, .int a2] q u (some (.int v)) q' u' := by
  refine z_enterT (by decide) (Nat.le_of_ble_eq_true rfl) ?_
  intro p e s m below meth c ls C0 hr hml hlk hW hS hl
  have hl : lv_has ls 3 [(0, .ref (b + 0)), (1, .int a1), (2, .int a2)] := hl
  have hx := C0.1
  have hb := C0.2.1
  have hs := hT.1
  rw [f_X10_board_e] at h
  refine lv_aload_n hx hb dX10_board_0 rfl (lv_at hl 0 rfl) ?_
  refine lv_iload_n hx hb dX10_board_1 rfl (lv_at hl 1 rfl) ?_
  replace h := z_bxd h
  rcases h with ⟨E1, hq, hE⟩ | ⟨w1, q3, u2, hq, h⟩
  · cases hE
  · refine z_cvTv (As := [.int a1]) C0 hml hl.1 hW hS (c_X10_needRider l D A b G (q) hT a1 u hq) mv_X10_136 (zk1 (hs 0 (by decide))) ⟨Nat.le_of_ble_eq_true rfl, Nat.le_of_ble_eq_true rfl⟩ rfl rfl (Nat.le_of_ble_eq_true rfl) dX10_board_2 (fun H locs hW hS hT => ?_)
    clear hq
    have hs := hT.1
    refine lv_iload_n hx hb dX10_board_5 rfl (lv_at hl 2 rfl) ?_
    replace h := z_bxd h
    rcases h with ⟨E1, hq, hE⟩ | ⟨w4, q6, u5, hq, h⟩
    · cases hE
    · refine z_csTv (As := [.int a2]) C0 hml hl.1 hW hS (c_X10_needCradle l D A b G (q3) hT a2 u2 hq) ms_X10_174 ⟨Nat.le_of_ble_eq_true rfl, Nat.le_of_ble_eq_true rfl⟩ rfl rfl (Nat.le_of_ble_eq_true rfl) dX10_board_6 (fun H locs hW hS hT => ?_)
      clear hq
      have hs := hT.1
      refine lv_aload_n hx hb dX10_board_9 rfl (lv_at hl 0 rfl) ?_
      refine z_getr (o := 6) C0 hW fl_X10_28 (zk1 (hs 0 (by decide))) rfl (zk3 (hs 0 (by decide)) 2) dX10_board_10 ?_
      refine z_getr (o := 7) C0 hW fl_X10_139 (zT0 hT).1 rfl ((zT0 hT).2.1 0 (by decide)).1 dX10_board_13 ?_
      refine lv_iload_n hx hb dX10_board_16 rfl (lv_at hl 1 rfl) ?_
      replace h := z_if h
      obtain ⟨hin, h⟩ := h
      refine z_iald (n := 8) C0 hW ((zT0 hT).2.1 0 (by decide)).2.1 ((zT0 hT).2.1 0 (by decide)).2.2 hin rfl dX10_board_17 ?_
      clear hin
      refine lv_topi (fun z7 e1 => ?_)
      replace h := z_ly h e1
      clear e1
      refine lv_iconst (v := (-1 : Int32)) hx hb dX10_board_18 (by decide) ?_
      refine lv_icmp_ne (tgt := 33) hx hb dX10_board_19 (by decide) (fun hc => ?_) (fun hc => ?_)
      · replace h := z_f h hc
        clear hc
        cases h
      · replace h := z_t h hc
        clear hc
        refine lv_aload_n hx hb dX10_board_22 rfl (lv_at hl 0 rfl) ?_
        refine z_getr (o := 6) C0 hW fl_X10_28 (zk1 (hs 0 (by decide))) rfl (zk3 (hs 0 (by decide)) 2) dX10_board_23 ?_
        refine lv_iload_n hx hb dX10_board_26 rfl (lv_at hl 2 rfl) ?_
        replace h := z_bd h
        obtain ⟨t8, hq, h⟩ := h
        refine z_cvi (As := [.int a2]) C0 hml hl.1 hW hS (c_X9_isOpen l D A b (zg G q6) 6 (q6 0) (zT0 hT) a2 u5 hq) mv_X10_227 (zT0 hT).1 ⟨Nat.le_of_ble_eq_true rfl, Nat.le_of_ble_eq_true rfl⟩ rfl rfl (Nat.le_of_ble_eq_true rfl) dX10_board_27 (fun H locs hW hS => ?_)
        clear hq
        refine z_ifneZ C0 (tgt := 44) dX10_board_30 (by decide) (fun hc => ?_) (fun hc => ?_)
        · replace h := z_t h hc
          clear hc
          refine lv_aload_n hx hb dX10_board_44 rfl (lv_at hl 0 rfl) ?_
          replace h := z_bd3 h
          obtain ⟨w9, q11, u10, hq, h⟩ := h
          refine z_cvTv (As := []) C0 hml hl.1 hW hS (c_X10_rememberAct l D A b G (q6) hT u5 hq) mv_X10_271 (zk1 (hs 0 (by decide))) ⟨Nat.le_of_ble_eq_true rfl, Nat.le_of_ble_eq_true rfl⟩ rfl rfl (Nat.le_of_ble_eq_true rfl) dX10_board_45 (fun H locs hW hS hT => ?_)
          clear hq
          have hs := hT.1
          refine lv_aload_n hx hb dX10_board_48 rfl (lv_at hl 0 rfl) ?_
          refine z_getr (o := 6) C0 hW fl_X10_28 (zk1 (hs 0 (by decide))) rfl (zk3 (hs 0 (by decide)) 2) dX10_board_49 ?_
          refine lv_iload_n hx hb dX10_board_52 rfl (lv_at hl 1 rfl) ?_
          refine lv_iload_n hx hb dX10_board_53 rfl (lv_at hl 2 rfl) ?_
          replace h := z_bd h
          obtain ⟨u12, hq, h⟩ := h
          refine z_cvv (As := [.int a1, .int a2]) C0 hml hl.1 hW hS (c_X9_getIn l D A b (zg G q11) 6 (q11 0) (zT0 hT) a1 a2 u10 hq) mv_X10_274 (zT0 hT).1 ⟨Nat.le_of_ble_eq_true rfl, Nat.le_of_ble_eq_true rfl⟩ rfl rfl (Nat.le_of_ble_eq_true rfl) dX10_board_54 (fun H locs hW hS => ?_)
          clear hq
          refine lv_aload_n hx hb dX10_board_57 rfl (lv_at hl 0 rfl) ?_
          refine z_getr (o := 6) C0 hW fl_X10_28 (zk1 (hs 0 (by decide))) rfl (zk3 (hs 0 (by decide)) 2) dX10_board_58 ?_
          refine lv_iload_n hx hb dX10_board_61 rfl (lv_at hl 2 rfl) ?_
          replace h := z_bd h
          obtain ⟨r13, hq, h⟩ := h
          refine z_cvi (As := [.int a2]) C0 hml hl.1 hW hS (c_X9_ridersIn l D A b (zg G q11) 6 (q11 0) (zT0 hT) a2 u12 hq) mv_X10_180 (zT0 hT).1 ⟨Nat.le_of_ble_eq_true rfl, Nat.le_of_ble_eq_true rfl⟩ rfl rfl (Nat.le_of_ble_eq_true rfl) dX10_board_62 (fun H locs hW hS => ?_)
          clear hq
          obtain ⟨r14, hq⟩ : ∃ y, f_J6_bitCount_0f7a4 r13 u12 = y := ⟨_, rfl⟩
          replace h := z_lz h hq
          refine z_csi (As := [.int r13]) C0 hml hl.1 hW hS (c_J6_bitCount_0f7a4 l D A b (zg G q11) r13 u12 hq) ms_X10_231 ⟨Nat.le_of_ble_eq_true rfl, Nat.le_of_ble_eq_true rfl⟩ rfl rfl (Nat.le_of_ble_eq_true rfl) dX10_board_65 (fun H locs hW hS => ?_)
          clear hq
          cases h
          exact z_iretT C0 hr hlk hW hS hT dX10_board_68
        · replace h := z_ff h hc
          clear hc
          cases h
set_option maxRecDepth 100000 in
set_option maxHeartbeats 4000000 in
theorem t_X10_board (l : Launch) (D : zD) (A : Nat → Prop) (b : Nat) (G : zG) (q : zq) (hT : zTop G q) (hst : l.stackTraces = false) (a1 : Int32) (a2 : Int32) (u : zU) {E : String} {q' : zq} {u' : zU} (h : f_X10_board q a1 a2 u = some (.inl E, q', u')) : z_TX l D A b G yX10_board cX10_board 3 (some .int) 7 128 [.ref (b + 0), .int a1, .int a2] q u E q' u' := by
  refine z_enterX (by decide) (Nat.le_of_ble_eq_true rfl) ?_
  intro p e s m below meth c ls C0 hex hml hlk hW hS hl
  have hl : lv_has ls 3 [(0, .ref (b + 0)), (1, .int a1), (2, .int a2)] := hl
  have hx := C0.1
  have hb := C0.2.1
  have hs := hT.1
  rw [f_X10_board_e] at h
  refine lv_aload_n hx hb dX10_board_0 rfl (lv_at hl 0 rfl) ?_
  refine lv_iload_n hx hb dX10_board_1 rfl (lv_at hl 1 rfl) ?_
  replace h := z_bxd h
  rcases h with ⟨E1, hq, hE⟩ | ⟨w1, q3, u2, hq, h⟩
  · cases hE
    exact z_cvX (As := [.int a1]) C0 hml hl.1 hW hS hex hlk (t_X10_needRider l D A b G (q) hT hst a1 u hq) mv_X10_136 (zk1 (hs 0 (by decide))) ⟨Nat.le_of_ble_eq_true rfl, Nat.le_of_ble_eq_true rfl⟩ ⟨Nat.le_of_ble_eq_true rfl, Nat.le_of_ble_eq_true rfl⟩ rfl rfl (Nat.le_of_ble_eq_true rfl) dX10_board_2
  · refine z_cvTv (As := [.int a1]) C0 hml hl.1 hW hS (c_X10_needRider l D A b G (q) hT a1 u hq) mv_X10_136 (zk1 (hs 0 (by decide))) ⟨Nat.le_of_ble_eq_true rfl, Nat.le_of_ble_eq_true rfl⟩ rfl rfl (Nat.le_of_ble_eq_true rfl) dX10_board_2 (fun H locs hW hS hT => ?_)
    clear hq
    have hs := hT.1
    refine lv_iload_n hx hb dX10_board_5 rfl (lv_at hl 2 rfl) ?_
    replace h := z_bxd h
    rcases h with ⟨E1, hq, hE⟩ | ⟨w4, q6, u5, hq, h⟩
    · cases hE
      exact z_csX (As := [.int a2]) C0 hml hl.1 hW hS hex hlk (t_X10_needCradle l D A b G (q3) hT hst a2 u2 hq) ms_X10_174 ⟨Nat.le_of_ble_eq_true rfl, Nat.le_of_ble_eq_true rfl⟩ ⟨Nat.le_of_ble_eq_true rfl, Nat.le_of_ble_eq_true rfl⟩ rfl rfl (Nat.le_of_ble_eq_true rfl) dX10_board_6
    · refine z_csTv (As := [.int a2]) C0 hml hl.1 hW hS (c_X10_needCradle l D A b G (q3) hT a2 u2 hq) ms_X10_174 ⟨Nat.le_of_ble_eq_true rfl, Nat.le_of_ble_eq_true rfl⟩ rfl rfl (Nat.le_of_ble_eq_true rfl) dX10_board_6 (fun H locs hW hS hT => ?_)
      clear hq
      have hs := hT.1
      refine lv_aload_n hx hb dX10_board_9 rfl (lv_at hl 0 rfl) ?_
      refine z_getr (o := 6) C0 hW fl_X10_28 (zk1 (hs 0 (by decide))) rfl (zk3 (hs 0 (by decide)) 2) dX10_board_10 ?_
      refine z_getr (o := 7) C0 hW fl_X10_139 (zT0 hT).1 rfl ((zT0 hT).2.1 0 (by decide)).1 dX10_board_13 ?_
      refine lv_iload_n hx hb dX10_board_16 rfl (lv_at hl 1 rfl) ?_
      replace h := z_if h
      obtain ⟨hin, h⟩ := h
      refine z_iald (n := 8) C0 hW ((zT0 hT).2.1 0 (by decide)).2.1 ((zT0 hT).2.1 0 (by decide)).2.2 hin rfl dX10_board_17 ?_
      clear hin
      refine lv_topi (fun z7 e1 => ?_)
      replace h := z_ly h e1
      clear e1
      refine lv_iconst (v := (-1 : Int32)) hx hb dX10_board_18 (by decide) ?_
      refine lv_icmp_ne (tgt := 33) hx hb dX10_board_19 (by decide) (fun hc => ?_) (fun hc => ?_)
      · replace h := z_f h hc
        clear hc
        cases h
        exact z_thrW (k := 5) (tx := "it does not wait, or cannot get in there") C0 hst hml hl.1 hW hS hT hex hlk tw_266_270 (List.mem_of_getElem? (i := 5) rfl) ⟨Nat.le_of_ble_eq_true rfl, Nat.le_of_ble_eq_true rfl⟩ ⟨Nat.le_of_ble_eq_true rfl, Nat.le_of_ble_eq_true rfl⟩ dX10_board_33 dX10_board_36 dX10_board_37 dX10_board_40 dX10_board_43
      · replace h := z_t h hc
        clear hc
        refine lv_aload_n hx hb dX10_board_22 rfl (lv_at hl 0 rfl) ?_
        refine z_getr (o := 6) C0 hW fl_X10_28 (zk1 (hs 0 (by decide))) rfl (zk3 (hs 0 (by decide)) 2) dX10_board_23 ?_
        refine lv_iload_n hx hb dX10_board_26 rfl (lv_at hl 2 rfl) ?_
        replace h := z_bd h
        obtain ⟨t8, hq, h⟩ := h
        refine z_cvi (As := [.int a2]) C0 hml hl.1 hW hS (c_X9_isOpen l D A b (zg G q6) 6 (q6 0) (zT0 hT) a2 u5 hq) mv_X10_227 (zT0 hT).1 ⟨Nat.le_of_ble_eq_true rfl, Nat.le_of_ble_eq_true rfl⟩ rfl rfl (Nat.le_of_ble_eq_true rfl) dX10_board_27 (fun H locs hW hS => ?_)
        clear hq
        refine z_ifneZ C0 (tgt := 44) dX10_board_30 (by decide) (fun hc => ?_) (fun hc => ?_)
        · replace h := z_t h hc
          clear hc
          refine lv_aload_n hx hb dX10_board_44 rfl (lv_at hl 0 rfl) ?_
          replace h := z_bd3 h
          obtain ⟨w9, q11, u10, hq, h⟩ := h
          refine z_cvTv (As := []) C0 hml hl.1 hW hS (c_X10_rememberAct l D A b G (q6) hT u5 hq) mv_X10_271 (zk1 (hs 0 (by decide))) ⟨Nat.le_of_ble_eq_true rfl, Nat.le_of_ble_eq_true rfl⟩ rfl rfl (Nat.le_of_ble_eq_true rfl) dX10_board_45 (fun H locs hW hS hT => ?_)
          clear hq
          have hs := hT.1
          refine lv_aload_n hx hb dX10_board_48 rfl (lv_at hl 0 rfl) ?_
          refine z_getr (o := 6) C0 hW fl_X10_28 (zk1 (hs 0 (by decide))) rfl (zk3 (hs 0 (by decide)) 2) dX10_board_49 ?_
          refine lv_iload_n hx hb dX10_board_52 rfl (lv_at hl 1 rfl) ?_
          refine lv_iload_n hx hb dX10_board_53 rfl (lv_at hl 2 rfl) ?_
          replace h := z_bd h
          obtain ⟨u12, hq, h⟩ := h
          refine z_cvv (As := [.int a1, .int a2]) C0 hml hl.1 hW hS (c_X9_getIn l D A b (zg G q11) 6 (q11 0) (zT0 hT) a1 a2 u10 hq) mv_X10_274 (zT0 hT).1 ⟨Nat.le_of_ble_eq_true rfl, Nat.le_of_ble_eq_true rfl⟩ rfl rfl (Nat.le_of_ble_eq_true rfl) dX10_board_54 (fun H locs hW hS => ?_)
          clear hq
          refine lv_aload_n hx hb dX10_board_57 rfl (lv_at hl 0 rfl) ?_
          refine z_getr (o := 6) C0 hW fl_X10_28 (zk1 (hs 0 (by decide))) rfl (zk3 (hs 0 (by decide)) 2) dX10_board_58 ?_
          refine lv_iload_n hx hb dX10_board_61 rfl (lv_at hl 2 rfl) ?_
          replace h := z_bd h
          obtain ⟨r13, hq, h⟩ := h
          refine z_cvi (As := [.int a2]) C0 hml hl.1 hW hS (c_X9_ridersIn l D A b (zg G q11) 6 (q11 0) (zT0 hT) a2 u12 hq) mv_X10_180 (zT0 hT).1 ⟨Nat.le_of_ble_eq_true rfl, Nat.le_of_ble_eq_true rfl⟩ rfl rfl (Nat.le_of_ble_eq_true rfl) dX10_board_62 (fun H locs hW hS => ?_)
          clear hq
          obtain ⟨r14, hq⟩ : ∃ y, f_J6_bitCount_0f7a4 r13 u12 = y := ⟨_, rfl⟩
          replace h := z_lz h hq
          refine z_csi (As := [.int r13]) C0 hml hl.1 hW hS (c_J6_bitCount_0f7a4 l D A b (zg G q11) r13 u12 hq) ms_X10_231 ⟨Nat.le_of_ble_eq_true rfl, Nat.le_of_ble_eq_true rfl⟩ rfl rfl (Nat.le_of_ble_eq_true rfl) dX10_board_65 (fun H locs hW hS => ?_)
          clear hq
          cases h
        · replace h := z_ff h hc
          clear hc
          cases h
          exact z_thrW (k := 5) (tx := "it does not wait, or cannot get in there") C0 hst hml hl.1 hW hS hT hex hlk tw_266_270 (List.mem_of_getElem? (i := 5) rfl) ⟨Nat.le_of_ble_eq_true rfl, Nat.le_of_ble_eq_true rfl⟩ ⟨Nat.le_of_ble_eq_true rfl, Nat.le_of_ble_eq_true rfl⟩ dX10_board_33 dX10_board_36 dX10_board_37 dX10_board_40 dX10_board_43
def f_X10_move (q : zq) (a1 : Int32) (a2 : Bool) (u : zU) : Option ((String ⊕ Int32) × zq × zU) :=
  z_bx (f_X10_needRider (q) a1 u) (fun w1 q3 u2 => if z_in a1 8 = true then (z_let (u2 7 (a1).toNatClampNeg) (fun z4 => if a2 = true then (z_let ((z4 + (1 : Int32)) &&& (7 : Int32)) (fun z11 => if z4 = (-1 : Int32) then (some (.inl "java/lang/IllegalStateException", q3, u2)) else ((f_X9_isOpen 6 (q3 0) z11 u2).bind (fun t12 => if t12 = true then (z_b3 (f_X10_rememberAct (q3) u2) (fun w13 q15 u14 => if z_in a1 8 = true then (z_let (z_up u14 7 (a1).toNatClampNeg z11) (fun u16 => some (.inr z11, q15, u16))) else none)) else (some (.inl "java/lang/IllegalStateException", q3, u2)))))) else (z_let ((z4 - (1 : Int32)) &&& (7 : Int32)) (fun z5 => if z4 = (-1 : Int32) then (some (.inl "java/lang/IllegalStateException", q3, u2)) else ((f_X9_isOpen 6 (q3 0) z5 u2).bind (fun t6 => if t6 = true then (z_b3 (f_X10_rememberAct (q3) u2) (fun w7 q9 u8 => if z_in a1 8 = true then (z_let (z_up u8 7 (a1).toNatClampNeg z5) (fun u10 => some (.inr z5, q9, u10))) else none)) else (some (.inl "java/lang/IllegalStateException", q3, u2)))))))) else none)
theorem f_X10_move_e (q : zq) (a1 : Int32) (a2 : Bool) (u : zU) : f_X10_move q a1 a2 u = z_bx (f_X10_needRider (q) a1 u) (fun w1 q3 u2 => if z_in a1 8 = true then (z_let (u2 7 (a1).toNatClampNeg) (fun z4 => if a2 = true then (z_let ((z4 + (1 : Int32)) &&& (7 : Int32)) (fun z11 => if z4 = (-1 : Int32) then (some (.inl "java/lang/IllegalStateException", q3, u2)) else ((f_X9_isOpen 6 (q3 0) z11 u2).bind (fun t12 => if t12 = true then (z_b3 (f_X10_rememberAct (q3) u2) (fun w13 q15 u14 => if z_in a1 8 = true then (z_let (z_up u14 7 (a1).toNatClampNeg z11) (fun u16 => some (.inr z11, q15, u16))) else none)) else (some (.inl "java/lang/IllegalStateException", q3, u2)))))) else (z_let ((z4 - (1 : Int32)) &&& (7 : Int32)) (fun z5 => if z4 = (-1 : Int32) then (some (.inl "java/lang/IllegalStateException", q3, u2)) else ((f_X9_isOpen 6 (q3 0) z5 u2).bind (fun t6 => if t6 = true then (z_b3 (f_X10_rememberAct (q3) u2) (fun w7 q9 u8 => if z_in a1 8 = true then (z_let (z_up u8 7 (a1).toNatClampNeg z5) (fun u10 => some (.inr z5, q9, u10))) else none)) else (some (.inl "java/lang/IllegalStateException", q3, u2)))))))) else none) := rfl
set_option maxRecDepth 100000 in
set_option maxHeartbeats 4000000 in
theorem c_X10_move (l : Launch) (D : zD) (A : Nat → Prop) (b : Nat) (G : zG) (q : zq) (hT : zTop G q) (a1 : Int32) (a2 : Bool) (u : zU) {v : Int32} {q' : zq} {u' : zU} (h : f_X10_move q a1 a2 u = some (.inr v, q', u')) : z_MT l D A b G yX10_move cX10_move 5 (some .int) 7 128 [.ref (b + 0), .int a1, .int (bI a2)] q u (some (.int v)) q' u' := by
  refine z_enterT (by decide) (Nat.le_of_ble_eq_true rfl) ?_
  intro p e s m below meth c ls C0 hr hml hlk hW hS hl
  have hl : lv_has ls 5 [(0, .ref (b + 0)), (1, .int a1), (2, .int (bI a2))] := hl
  have hx := C0.1
  have hb := C0.2.1
  have hs := hT.1
  rw [f_X10_move_e] at h
  refine lv_aload_n hx hb dX10_move_0 rfl (lv_at hl 0 rfl) ?_
  refine lv_iload_n hx hb dX10_move_1 rfl (lv_at hl 1 rfl) ?_
  replace h := z_bxd h
  rcases h with ⟨E1, hq, hE⟩ | ⟨w1, q3, u2, hq, h⟩
  · cases hE
  · refine z_cvTv (As := [.int a1]) C0 hml hl.1 hW hS (c_X10_needRider l D A b G (q) hT a1 u hq) mv_X10_136 (zk1 (hs 0 (by decide))) ⟨Nat.le_of_ble_eq_true rfl, Nat.le_of_ble_eq_true rfl⟩ rfl rfl (Nat.le_of_ble_eq_true rfl) dX10_move_2 (fun H locs hW hS hT => ?_)
    clear hq
    have hs := hT.1
    refine lv_aload_n hx hb dX10_move_5 rfl (lv_at hl 0 rfl) ?_
    refine z_getr (o := 6) C0 hW fl_X10_28 (zk1 (hs 0 (by decide))) rfl (zk3 (hs 0 (by decide)) 2) dX10_move_6 ?_
    refine z_getr (o := 7) C0 hW fl_X10_139 (zT0 hT).1 rfl ((zT0 hT).2.1 0 (by decide)).1 dX10_move_9 ?_
    refine lv_iload_n hx hb dX10_move_12 rfl (lv_at hl 1 rfl) ?_
    replace h := z_if h
    obtain ⟨hin, h⟩ := h
    refine z_iald (n := 8) C0 hW ((zT0 hT).2.1 0 (by decide)).2.1 ((zT0 hT).2.1 0 (by decide)).2.2 hin rfl dX10_move_13 ?_
    clear hin
    refine lv_topi (fun z4 e1 => ?_)
    replace h := z_ly h e1
    clear e1
    refine lv_istore_n (lv' := [(3, .int z4), (0, .ref (b + 0)), (1, .int a1), (2, .int (bI a2))]) hx hb dX10_move_14 rfl hl (by decide) rfl (fun ls hl => ?_)
    refine lv_iload_n hx hb dX10_move_15 rfl (lv_at hl 3 rfl) ?_
    refine z_ifeqZ C0 (tgt := 25) dX10_move_16 (by decide) (fun hc => ?_) (fun hc => ?_)
    · replace h := z_ff h hc
      clear hc
      refine lv_iload_n hx hb dX10_move_25 rfl (lv_at hl 0 rfl) ?_
      refine lv_iconst (v := (1 : Int32)) hx hb dX10_move_26 (by decide) ?_
      refine lv_isub hx hb dX10_move_27 ?_
      refine lv_bipush (v := (7 : Int32)) hx hb dX10_move_28 (by decide) ?_
      refine lv_iand hx hb dX10_move_30 ?_
      refine lv_topi (fun z5 e1 => ?_)
      replace h := z_ly h e1
      clear e1
      refine lv_istore (lv' := [(4, .int z5), (3, .int z4), (0, .ref (b + 0)), (1, .int a1), (2, .int (bI a2))]) hx hb dX10_move_31 hl (by decide) rfl (fun ls hl => ?_)
      refine lv_iload_n hx hb dX10_move_33 rfl (lv_at hl 1 rfl) ?_
      refine lv_iconst (v := (-1 : Int32)) hx hb dX10_move_34 (by decide) ?_
      refine lv_icmp_eq (tgt := 50) hx hb dX10_move_35 (by decide) (fun hc => ?_) (fun hc => ?_)
      · replace h := z_t h hc
        clear hc
        cases h
      · replace h := z_f h hc
        clear hc
        refine lv_aload_n hx hb dX10_move_38 rfl (lv_at hl 2 rfl) ?_
        refine z_getr (o := 6) C0 hW fl_X10_28 (zk1 (hs 0 (by decide))) rfl (zk3 (hs 0 (by decide)) 2) dX10_move_39 ?_
        refine lv_iload hx hb dX10_move_42 (lv_at hl 0 rfl) ?_
        replace h := z_bd h
        obtain ⟨t6, hq, h⟩ := h
        refine z_cvi (As := [.int z5]) C0 hml hl.1 hW hS (c_X9_isOpen l D A b (zg G q3) 6 (q3 0) (zT0 hT) z5 u2 hq) mv_X10_227 (zT0 hT).1 ⟨Nat.le_of_ble_eq_true rfl, Nat.le_of_ble_eq_true rfl⟩ rfl rfl (Nat.le_of_ble_eq_true rfl) dX10_move_44 (fun H locs hW hS => ?_)
        clear hq
        refine z_ifneZ C0 (tgt := 61) dX10_move_47 (by decide) (fun hc => ?_) (fun hc => ?_)
        · replace h := z_t h hc
          clear hc
          refine lv_aload_n hx hb dX10_move_61 rfl (lv_at hl 2 rfl) ?_
          replace h := z_bd3 h
          obtain ⟨w7, q9, u8, hq, h⟩ := h
          refine z_cvTv (As := []) C0 hml hl.1 hW hS (c_X10_rememberAct l D A b G (q3) hT u2 hq) mv_X10_271 (zk1 (hs 0 (by decide))) ⟨Nat.le_of_ble_eq_true rfl, Nat.le_of_ble_eq_true rfl⟩ rfl rfl (Nat.le_of_ble_eq_true rfl) dX10_move_62 (fun H locs hW hS hT => ?_)
          clear hq
          have hs := hT.1
          refine lv_aload_n hx hb dX10_move_65 rfl (lv_at hl 2 rfl) ?_
          refine z_getr (o := 6) C0 hW fl_X10_28 (zk1 (hs 0 (by decide))) rfl (zk3 (hs 0 (by decide)) 2) dX10_move_66 ?_
          refine z_getr (o := 7) C0 hW fl_X10_139 (zT0 hT).1 rfl ((zT0 hT).2.1 0 (by decide)).1 dX10_move_69 ?_
          refine lv_iload_n hx hb dX10_move_72 rfl (lv_at hl 3 rfl) ?_
          refine lv_iload hx hb dX10_move_73 (lv_at hl 0 rfl) ?_
          replace h := z_if h
          obtain ⟨hin, h⟩ := h
          refine z_iast (n := 8) C0 hW hS ((zT0 hT).2.1 0 (by decide)).2.1 ((zT0 hT).2.1 0 (by decide)).2.2 hin rfl dX10_move_75 (fun H locs u10 e1 hW hS => ?_)
          replace h := z_ly h e1
          clear e1
          refine lv_iload hx hb dX10_move_76 (lv_at hl 0 rfl) ?_
          cases h
          exact z_iretT C0 hr hlk hW hS hT dX10_move_78
        · replace h := z_ff h hc
          clear hc
          cases h
    · replace h := z_t h hc
      clear hc
      refine lv_iload_n hx hb dX10_move_19 rfl (lv_at hl 0 rfl) ?_
      refine lv_iconst (v := (1 : Int32)) hx hb dX10_move_20 (by decide) ?_
      refine lv_iadd hx hb dX10_move_21 ?_
      refine lv_goto (tgt := 28) hx hb dX10_move_22 (by decide) ?_
      refine lv_bipush (v := (7 : Int32)) hx hb dX10_move_28 (by decide) ?_
      refine lv_iand hx hb dX10_move_30 ?_
      refine lv_topi (fun z11 e1 => ?_)
      replace h := z_ly h e1
      clear e1
      refine lv_istore (lv' := [(4, .int z11), (3, .int z4), (0, .ref (b + 0)), (1, .int a1), (2, .int (bI a2))]) hx hb dX10_move_31 hl (by decide) rfl (fun ls hl => ?_)
      refine lv_iload_n hx hb dX10_move_33 rfl (lv_at hl 1 rfl) ?_
      refine lv_iconst (v := (-1 : Int32)) hx hb dX10_move_34 (by decide) ?_
      refine lv_icmp_eq (tgt := 50) hx hb dX10_move_35 (by decide) (fun hc => ?_) (fun hc => ?_)
      · replace h := z_t h hc
        clear hc
        cases h
      · replace h := z_f h hc
        clear hc
        refine lv_aload_n hx hb dX10_move_38 rfl (lv_at hl 2 rfl) ?_
        refine z_getr (o := 6) C0 hW fl_X10_28 (zk1 (hs 0 (by decide))) rfl (zk3 (hs 0 (by decide)) 2) dX10_move_39 ?_
        refine lv_iload hx hb dX10_move_42 (lv_at hl 0 rfl) ?_
        replace h := z_bd h
        obtain ⟨t12, hq, h⟩ := h
        refine z_cvi (As := [.int z11]) C0 hml hl.1 hW hS (c_X9_isOpen l D A b (zg G q3) 6 (q3 0) (zT0 hT) z11 u2 hq) mv_X10_227 (zT0 hT).1 ⟨Nat.le_of_ble_eq_true rfl, Nat.le_of_ble_eq_true rfl⟩ rfl rfl (Nat.le_of_ble_eq_true rfl) dX10_move_44 (fun H locs hW hS => ?_)
        clear hq
        refine z_ifneZ C0 (tgt := 61) dX10_move_47 (by decide) (fun hc => ?_) (fun hc => ?_)
        · replace h := z_t h hc
          clear hc
          refine lv_aload_n hx hb dX10_move_61 rfl (lv_at hl 2 rfl) ?_
          replace h := z_bd3 h
          obtain ⟨w13, q15, u14, hq, h⟩ := h
          refine z_cvTv (As := []) C0 hml hl.1 hW hS (c_X10_rememberAct l D A b G (q3) hT u2 hq) mv_X10_271 (zk1 (hs 0 (by decide))) ⟨Nat.le_of_ble_eq_true rfl, Nat.le_of_ble_eq_true rfl⟩ rfl rfl (Nat.le_of_ble_eq_true rfl) dX10_move_62 (fun H locs hW hS hT => ?_)
          clear hq
          have hs := hT.1
          refine lv_aload_n hx hb dX10_move_65 rfl (lv_at hl 2 rfl) ?_
          refine z_getr (o := 6) C0 hW fl_X10_28 (zk1 (hs 0 (by decide))) rfl (zk3 (hs 0 (by decide)) 2) dX10_move_66 ?_
          refine z_getr (o := 7) C0 hW fl_X10_139 (zT0 hT).1 rfl ((zT0 hT).2.1 0 (by decide)).1 dX10_move_69 ?_
          refine lv_iload_n hx hb dX10_move_72 rfl (lv_at hl 3 rfl) ?_
          refine lv_iload hx hb dX10_move_73 (lv_at hl 0 rfl) ?_
          replace h := z_if h
          obtain ⟨hin, h⟩ := h
          refine z_iast (n := 8) C0 hW hS ((zT0 hT).2.1 0 (by decide)).2.1 ((zT0 hT).2.1 0 (by decide)).2.2 hin rfl dX10_move_75 (fun H locs u16 e1 hW hS => ?_)
          replace h := z_ly h e1
          clear e1
          refine lv_iload hx hb dX10_move_76 (lv_at hl 0 rfl) ?_
          cases h
          exact z_iretT C0 hr hlk hW hS hT dX10_move_78
        · replace h := z_ff h hc
          clear hc
          cases h
set_option maxRecDepth 100000 in
set_option maxHeartbeats 4000000 in
theorem t_X10_move (l : Launch) (D : zD) (A : Nat → Prop) (b : Nat) (G : zG) (q : zq) (hT : zTop G q) (hst : l.stackTraces = false) (a1 : Int32) (a2 : Bool) (u : zU) {E : String} {q' : zq} {u' : zU} (h : f_X10_move q a1 a2 u = some (.inl E, q', u')) : z_TX l D A b G yX10_move cX10_move 5 (some .int) 7 128 [.ref (b + 0), .int a1, .int (bI a2)] q u E q' u' := by
  refine z_enterX (by decide) (Nat.le_of_ble_eq_true rfl) ?_
  intro p e s m below meth c ls C0 hex hml hlk hW hS hl
  have hl : lv_has ls 5 [(0, .ref (b + 0)), (1, .int a1), (2, .int (bI a2))] := hl
  have hx := C0.1
  have hb := C0.2.1
  have hs := hT.1
  rw [f_X10_move_e] at h
  refine lv_aload_n hx hb dX10_move_0 rfl (lv_at hl 0 rfl) ?_
  refine lv_iload_n hx hb dX10_move_1 rfl (lv_at hl 1 rfl) ?_
  replace h := z_bxd h
  rcases h with ⟨E1, hq, hE⟩ | ⟨w1, q3, u2, hq, h⟩
  · cases hE
    exact z_cvX (As := [.int a1]) C0 hml hl.1 hW hS hex hlk (t_X10_needRider l D A b G (q) hT hst a1 u hq) mv_X10_136 (zk1 (hs 0 (by decide))) ⟨Nat.le_of_ble_eq_true rfl, Nat.le_of_ble_eq_true rfl⟩ ⟨Nat.le_of_ble_eq_true rfl, Nat.le_of_ble_eq_true rfl⟩ rfl rfl (Nat.le_of_ble_eq_true rfl) dX10_move_2
  · refine z_cvTv (As := [.int a1]) C0 hml hl.1 hW hS (c_X10_needRider l D A b G (q) hT a1 u hq) mv_X10_136 (zk1 (hs 0 (by decide))) ⟨Nat.le_of_ble_eq_true rfl, Nat.le_of_ble_eq_true rfl⟩ rfl rfl (Nat.le_of_ble_eq_true rfl) dX10_move_2 (fun H locs hW hS hT => ?_)
    clear hq
    have hs := hT.1
    refine lv_aload_n hx hb dX10_move_5 rfl (lv_at hl 0 rfl) ?_
    refine z_getr (o := 6) C0 hW fl_X10_28 (zk1 (hs 0 (by decide))) rfl (zk3 (hs 0 (by decide)) 2) dX10_move_6 ?_
    refine z_getr (o := 7) C0 hW fl_X10_139 (zT0 hT).1 rfl ((zT0 hT).2.1 0 (by decide)).1 dX10_move_9 ?_
    refine lv_iload_n hx hb dX10_move_12 rfl (lv_at hl 1 rfl) ?_
    replace h := z_if h
    obtain ⟨hin, h⟩ := h
    refine z_iald (n := 8) C0 hW ((zT0 hT).2.1 0 (by decide)).2.1 ((zT0 hT).2.1 0 (by decide)).2.2 hin rfl dX10_move_13 ?_
    clear hin
    refine lv_topi (fun z4 e1 => ?_)
    replace h := z_ly h e1
    clear e1
    refine lv_istore_n (lv' := [(3, .int z4), (0, .ref (b + 0)), (1, .int a1), (2, .int (bI a2))]) hx hb dX10_move_14 rfl hl (by decide) rfl (fun ls hl => ?_)
    refine lv_iload_n hx hb dX10_move_15 rfl (lv_at hl 3 rfl) ?_
    refine z_ifeqZ C0 (tgt := 25) dX10_move_16 (by decide) (fun hc => ?_) (fun hc => ?_)
    · replace h := z_ff h hc
      clear hc
      refine lv_iload_n hx hb dX10_move_25 rfl (lv_at hl 0 rfl) ?_
      refine lv_iconst (v := (1 : Int32)) hx hb dX10_move_26 (by decide) ?_
      refine lv_isub hx hb dX10_move_27 ?_
      refine lv_bipush (v := (7 : Int32)) hx hb dX10_move_28 (by decide) ?_
      refine lv_iand hx hb dX10_move_30 ?_
      refine lv_topi (fun z5 e1 => ?_)
      replace h := z_ly h e1
      clear e1
      refine lv_istore (lv' := [(4, .int z5), (3, .int z4), (0, .ref (b + 0)), (1, .int a1), (2, .int (bI a2))]) hx hb dX10_move_31 hl (by decide) rfl (fun ls hl => ?_)
      refine lv_iload_n hx hb dX10_move_33 rfl (lv_at hl 1 rfl) ?_
      refine lv_iconst (v := (-1 : Int32)) hx hb dX10_move_34 (by decide) ?_
      refine lv_icmp_eq (tgt := 50) hx hb dX10_move_35 (by decide) (fun hc => ?_) (fun hc => ?_)
      · replace h := z_t h hc
        clear hc
        cases h
        exact z_thrW (k := 6) (tx := "it waits, or cannot get in there") C0 hst hml hl.1 hW hS hT hex hlk tw_266_270 (List.mem_of_getElem? (i := 6) rfl) ⟨Nat.le_of_ble_eq_true rfl, Nat.le_of_ble_eq_true rfl⟩ ⟨Nat.le_of_ble_eq_true rfl, Nat.le_of_ble_eq_true rfl⟩ dX10_move_50 dX10_move_53 dX10_move_54 dX10_move_57 dX10_move_60
      · replace h := z_f h hc
        clear hc
        refine lv_aload_n hx hb dX10_move_38 rfl (lv_at hl 2 rfl) ?_
        refine z_getr (o := 6) C0 hW fl_X10_28 (zk1 (hs 0 (by decide))) rfl (zk3 (hs 0 (by decide)) 2) dX10_move_39 ?_
        refine lv_iload hx hb dX10_move_42 (lv_at hl 0 rfl) ?_
        replace h := z_bd h
        obtain ⟨t6, hq, h⟩ := h
        refine z_cvi (As := [.int z5]) C0 hml hl.1 hW hS (c_X9_isOpen l D A b (zg G q3) 6 (q3 0) (zT0 hT) z5 u2 hq) mv_X10_227 (zT0 hT).1 ⟨Nat.le_of_ble_eq_true rfl, Nat.le_of_ble_eq_true rfl⟩ rfl rfl (Nat.le_of_ble_eq_true rfl) dX10_move_44 (fun H locs hW hS => ?_)
        clear hq
        refine z_ifneZ C0 (tgt := 61) dX10_move_47 (by decide) (fun hc => ?_) (fun hc => ?_)
        · replace h := z_t h hc
          clear hc
          refine lv_aload_n hx hb dX10_move_61 rfl (lv_at hl 2 rfl) ?_
          replace h := z_bd3 h
          obtain ⟨w7, q9, u8, hq, h⟩ := h
          refine z_cvTv (As := []) C0 hml hl.1 hW hS (c_X10_rememberAct l D A b G (q3) hT u2 hq) mv_X10_271 (zk1 (hs 0 (by decide))) ⟨Nat.le_of_ble_eq_true rfl, Nat.le_of_ble_eq_true rfl⟩ rfl rfl (Nat.le_of_ble_eq_true rfl) dX10_move_62 (fun H locs hW hS hT => ?_)
          clear hq
          have hs := hT.1
          refine lv_aload_n hx hb dX10_move_65 rfl (lv_at hl 2 rfl) ?_
          refine z_getr (o := 6) C0 hW fl_X10_28 (zk1 (hs 0 (by decide))) rfl (zk3 (hs 0 (by decide)) 2) dX10_move_66 ?_
          refine z_getr (o := 7) C0 hW fl_X10_139 (zT0 hT).1 rfl ((zT0 hT).2.1 0 (by decide)).1 dX10_move_69 ?_
          refine lv_iload_n hx hb dX10_move_72 rfl (lv_at hl 3 rfl) ?_
          refine lv_iload hx hb dX10_move_73 (lv_at hl 0 rfl) ?_
          replace h := z_if h
          obtain ⟨hin, h⟩ := h
          refine z_iast (n := 8) C0 hW hS ((zT0 hT).2.1 0 (by decide)).2.1 ((zT0 hT).2.1 0 (by decide)).2.2 hin rfl dX10_move_75 (fun H locs u10 e1 hW hS => ?_)
          replace h := z_ly h e1
          clear e1
          refine lv_iload hx hb dX10_move_76 (lv_at hl 0 rfl) ?_
          cases h
        · replace h := z_ff h hc
          clear hc
          cases h
          exact z_thrW (k := 6) (tx := "it waits, or cannot get in there") C0 hst hml hl.1 hW hS hT hex hlk tw_266_270 (List.mem_of_getElem? (i := 6) rfl) ⟨Nat.le_of_ble_eq_true rfl, Nat.le_of_ble_eq_true rfl⟩ ⟨Nat.le_of_ble_eq_true rfl, Nat.le_of_ble_eq_true rfl⟩ dX10_move_50 dX10_move_53 dX10_move_54 dX10_move_57 dX10_move_60
    · replace h := z_t h hc
      clear hc
      refine lv_iload_n hx hb dX10_move_19 rfl (lv_at hl 0 rfl) ?_
      refine lv_iconst (v := (1 : Int32)) hx hb dX10_move_20 (by decide) ?_
      refine lv_iadd hx hb dX10_move_21 ?_
      refine lv_goto (tgt := 28) hx hb dX10_move_22 (by decide) ?_
      refine lv_bipush (v := (7 : Int32)) hx hb dX10_move_28 (by decide) ?_
      refine lv_iand hx hb dX10_move_30 ?_
      refine lv_topi (fun z11 e1 => ?_)
      replace h := z_ly h e1
      clear e1
      refine lv_istore (lv' := [(4, .int z11), (3, .int z4), (0, .ref (b + 0)), (1, .int a1), (2, .int (bI a2))]) hx hb dX10_move_31 hl (by decide) rfl (fun ls hl => ?_)
      refine lv_iload_n hx hb dX10_move_33 rfl (lv_at hl 1 rfl) ?_
      refine lv_iconst (v := (-1 : Int32)) hx hb dX10_move_34 (by decide) ?_
      refine lv_icmp_eq (tgt := 50) hx hb dX10_move_35 (by decide) (fun hc => ?_) (fun hc => ?_)
      · replace h := z_t h hc
        clear hc
        cases h
        exact z_thrW (k := 6) (tx := "it waits, or cannot get in there") C0 hst hml hl.1 hW hS hT hex hlk tw_266_270 (List.mem_of_getElem? (i := 6) rfl) ⟨Nat.le_of_ble_eq_true rfl, Nat.le_of_ble_eq_true rfl⟩ ⟨Nat.le_of_ble_eq_true rfl, Nat.le_of_ble_eq_true rfl⟩ dX10_move_50 dX10_move_53 dX10_move_54 dX10_move_57 dX10_move_60
      · replace h := z_f h hc
        clear hc
        refine lv_aload_n hx hb dX10_move_38 rfl (lv_at hl 2 rfl) ?_
        refine z_getr (o := 6) C0 hW fl_X10_28 (zk1 (hs 0 (by decide))) rfl (zk3 (hs 0 (by decide)) 2) dX10_move_39 ?_
        refine lv_iload hx hb dX10_move_42 (lv_at hl 0 rfl) ?_
        replace h := z_bd h
        obtain ⟨t12, hq, h⟩ := h
        refine z_cvi (As := [.int z11]) C0 hml hl.1 hW hS (c_X9_isOpen l D A b (zg G q3) 6 (q3 0) (zT0 hT) z11 u2 hq) mv_X10_227 (zT0 hT).1 ⟨Nat.le_of_ble_eq_true rfl, Nat.le_of_ble_eq_true rfl⟩ rfl rfl (Nat.le_of_ble_eq_true rfl) dX10_move_44 (fun H locs hW hS => ?_)
        clear hq
        refine z_ifneZ C0 (tgt := 61) dX10_move_47 (by decide) (fun hc => ?_) (fun hc => ?_)
        · replace h := z_t h hc
          clear hc
          refine lv_aload_n hx hb dX10_move_61 rfl (lv_at hl 2 rfl) ?_
          replace h := z_bd3 h
          obtain ⟨w13, q15, u14, hq, h⟩ := h
          refine z_cvTv (As := []) C0 hml hl.1 hW hS (c_X10_rememberAct l D A b G (q3) hT u2 hq) mv_X10_271 (zk1 (hs 0 (by decide))) ⟨Nat.le_of_ble_eq_true rfl, Nat.le_of_ble_eq_true rfl⟩ rfl rfl (Nat.le_of_ble_eq_true rfl) dX10_move_62 (fun H locs hW hS hT => ?_)
          clear hq
          have hs := hT.1
          refine lv_aload_n hx hb dX10_move_65 rfl (lv_at hl 2 rfl) ?_
          refine z_getr (o := 6) C0 hW fl_X10_28 (zk1 (hs 0 (by decide))) rfl (zk3 (hs 0 (by decide)) 2) dX10_move_66 ?_
          refine z_getr (o := 7) C0 hW fl_X10_139 (zT0 hT).1 rfl ((zT0 hT).2.1 0 (by decide)).1 dX10_move_69 ?_
          refine lv_iload_n hx hb dX10_move_72 rfl (lv_at hl 3 rfl) ?_
          refine lv_iload hx hb dX10_move_73 (lv_at hl 0 rfl) ?_
          replace h := z_if h
          obtain ⟨hin, h⟩ := h
          refine z_iast (n := 8) C0 hW hS ((zT0 hT).2.1 0 (by decide)).2.1 ((zT0 hT).2.1 0 (by decide)).2.2 hin rfl dX10_move_75 (fun H locs u16 e1 hW hS => ?_)
          replace h := z_ly h e1
          clear e1
          refine lv_iload hx hb dX10_move_76 (lv_at hl 0 rfl) ?_
          cases h
        · replace h := z_ff h hc
          clear hc
          cases h
          exact z_thrW (k := 6) (tx := "it waits, or cannot get in there") C0 hst hml hl.1 hW hS hT hex hlk tw_266_270 (List.mem_of_getElem? (i := 6) rfl) ⟨Nat.le_of_ble_eq_true rfl, Nat.le_of_ble_eq_true rfl⟩ ⟨Nat.le_of_ble_eq_true rfl, Nat.le_of_ble_eq_true rfl⟩ dX10_move_50 dX10_move_53 dX10_move_54 dX10_move_57 dX10_move_60
def f_X10_off (q : zq) (a1 : Int32) (u : zU) : Option ((String ⊕ Int32) × zq × zU) :=
  z_bx (f_X10_needRider (q) a1 u) (fun w1 q3 u2 => if z_in a1 8 = true then (z_let (u2 7 (a1).toNatClampNeg) (fun z4 => if z4 = (-1 : Int32) then (some (.inl "java/lang/IllegalStateException", q3, u2)) else (z_b3 (f_X10_rememberAct (q3) u2) (fun w5 q7 u6 => (f_X9_getOff 6 (q7 0) a1 u6).bind (fun u8 => some (.inr (u8 6 9), q7, u8)))))) else none)
theorem f_X10_off_e (q : zq) (a1 : Int32) (u : zU) : f_X10_off q a1 u = z_bx (f_X10_needRider (q) a1 u) (fun w1 q3 u2 => if z_in a1 8 = true then (z_let (u2 7 (a1).toNatClampNeg) (fun z4 => if z4 = (-1 : Int32) then (some (.inl "java/lang/IllegalStateException", q3, u2)) else (z_b3 (f_X10_rememberAct (q3) u2) (fun w5 q7 u6 => (f_X9_getOff 6 (q7 0) a1 u6).bind (fun u8 => some (.inr (u8 6 9), q7, u8)))))) else none) := rfl
set_option maxRecDepth 100000 in
set_option maxHeartbeats 4000000 in
theorem c_X10_off (l : Launch) (D : zD) (A : Nat → Prop) (b : Nat) (G : zG) (q : zq) (hT : zTop G q) (a1 : Int32) (u : zU) {v : Int32} {q' : zq} {u' : zU} (h : f_X10_off q a1 u = some (.inr v, q', u')) : z_MT l D A b G yX10_off cX10_off 2 (some .int) 7 128 [.ref (b + 0), .int a1] q u (some (.int v)) q' u' := by
  refine z_enterT (by decide) (Nat.le_of_ble_eq_true rfl) ?_
  intro p e s m below meth c ls C0 hr hml hlk hW hS hl
  have hl : lv_has ls 2 [(0, .ref (b + 0)), (1, .int a1)] := hl
  have hx := C0.1
  have hb := C0.2.1
  have hs := hT.1
  rw [f_X10_off_e] at h
  refine lv_aload_n hx hb dX10_off_0 rfl (lv_at hl 0 rfl) ?_
  refine lv_iload_n hx hb dX10_off_1 rfl (lv_at hl 1 rfl) ?_
  replace h := z_bxd h
  rcases h with ⟨E1, hq, hE⟩ | ⟨w1, q3, u2, hq, h⟩
  · cases hE
  · refine z_cvTv (As := [.int a1]) C0 hml hl.1 hW hS (c_X10_needRider l D A b G (q) hT a1 u hq) mv_X10_136 (zk1 (hs 0 (by decide))) ⟨Nat.le_of_ble_eq_true rfl, Nat.le_of_ble_eq_true rfl⟩ rfl rfl (Nat.le_of_ble_eq_true rfl) dX10_off_2 (fun H locs hW hS hT => ?_)
    clear hq
    have hs := hT.1
    refine lv_aload_n hx hb dX10_off_5 rfl (lv_at hl 0 rfl) ?_
    refine z_getr (o := 6) C0 hW fl_X10_28 (zk1 (hs 0 (by decide))) rfl (zk3 (hs 0 (by decide)) 2) dX10_off_6 ?_
    refine z_getr (o := 7) C0 hW fl_X10_139 (zT0 hT).1 rfl ((zT0 hT).2.1 0 (by decide)).1 dX10_off_9 ?_
    refine lv_iload_n hx hb dX10_off_12 rfl (lv_at hl 1 rfl) ?_
    replace h := z_if h
    obtain ⟨hin, h⟩ := h
    refine z_iald (n := 8) C0 hW ((zT0 hT).2.1 0 (by decide)).2.1 ((zT0 hT).2.1 0 (by decide)).2.2 hin rfl dX10_off_13 ?_
    clear hin
    refine lv_topi (fun z4 e1 => ?_)
    replace h := z_ly h e1
    clear e1
    refine lv_iconst (v := (-1 : Int32)) hx hb dX10_off_14 (by decide) ?_
    refine lv_icmp_ne (tgt := 29) hx hb dX10_off_15 (by decide) (fun hc => ?_) (fun hc => ?_)
    · replace h := z_f h hc
      clear hc
      refine lv_aload_n hx hb dX10_off_29 rfl (lv_at hl 0 rfl) ?_
      replace h := z_bd3 h
      obtain ⟨w5, q7, u6, hq, h⟩ := h
      refine z_cvTv (As := []) C0 hml hl.1 hW hS (c_X10_rememberAct l D A b G (q3) hT u2 hq) mv_X10_271 (zk1 (hs 0 (by decide))) ⟨Nat.le_of_ble_eq_true rfl, Nat.le_of_ble_eq_true rfl⟩ rfl rfl (Nat.le_of_ble_eq_true rfl) dX10_off_30 (fun H locs hW hS hT => ?_)
      clear hq
      have hs := hT.1
      refine lv_aload_n hx hb dX10_off_33 rfl (lv_at hl 0 rfl) ?_
      refine z_getr (o := 6) C0 hW fl_X10_28 (zk1 (hs 0 (by decide))) rfl (zk3 (hs 0 (by decide)) 2) dX10_off_34 ?_
      refine lv_iload_n hx hb dX10_off_37 rfl (lv_at hl 1 rfl) ?_
      replace h := z_bd h
      obtain ⟨u8, hq, h⟩ := h
      refine z_cvv (As := [.int a1]) C0 hml hl.1 hW hS (c_X9_getOff l D A b (zg G q7) 6 (q7 0) (zT0 hT) a1 u6 hq) mv_X10_282 (zT0 hT).1 ⟨Nat.le_of_ble_eq_true rfl, Nat.le_of_ble_eq_true rfl⟩ rfl rfl (Nat.le_of_ble_eq_true rfl) dX10_off_38 (fun H locs hW hS => ?_)
      clear hq
      refine lv_aload_n hx hb dX10_off_41 rfl (lv_at hl 0 rfl) ?_
      refine z_getr (o := 6) C0 hW fl_X10_28 (zk1 (hs 0 (by decide))) rfl (zk3 (hs 0 (by decide)) 2) dX10_off_42 ?_
      refine z_geti C0 hW fl_X10_248 (zT0 hT).1 rfl dX10_off_45 ?_
      cases h
      exact z_iretT C0 hr hlk hW hS hT dX10_off_48
    · replace h := z_t h hc
      clear hc
      cases h
set_option maxRecDepth 100000 in
set_option maxHeartbeats 4000000 in
theorem t_X10_off (l : Launch) (D : zD) (A : Nat → Prop) (b : Nat) (G : zG) (q : zq) (hT : zTop G q) (hst : l.stackTraces = false) (a1 : Int32) (u : zU) {E : String} {q' : zq} {u' : zU} (h : f_X10_off q a1 u = some (.inl E, q', u')) : z_TX l D A b G yX10_off cX10_off 2 (some .int) 7 128 [.ref (b + 0), .int a1] q u E q' u' := by
  refine z_enterX (by decide) (Nat.le_of_ble_eq_true rfl) ?_
  intro p e s m below meth c ls C0 hex hml hlk hW hS hl
  have hl : lv_has ls 2 [(0, .ref (b + 0)), (1, .int a1)] := hl
  have hx := C0.1
  have hb := C0.2.1
  have hs := hT.1
  rw [f_X10_off_e] at h
  refine lv_aload_n hx hb dX10_off_0 rfl (lv_at hl 0 rfl) ?_
  refine lv_iload_n hx hb dX10_off_1 rfl (lv_at hl 1 rfl) ?_
  replace h := z_bxd h
  rcases h with ⟨E1, hq, hE⟩ | ⟨w1, q3, u2, hq, h⟩
  · cases hE
    exact z_cvX (As := [.int a1]) C0 hml hl.1 hW hS hex hlk (t_X10_needRider l D A b G (q) hT hst a1 u hq) mv_X10_136 (zk1 (hs 0 (by decide))) ⟨Nat.le_of_ble_eq_true rfl, Nat.le_of_ble_eq_true rfl⟩ ⟨Nat.le_of_ble_eq_true rfl, Nat.le_of_ble_eq_true rfl⟩ rfl rfl (Nat.le_of_ble_eq_true rfl) dX10_off_2
  · refine z_cvTv (As := [.int a1]) C0 hml hl.1 hW hS (c_X10_needRider l D A b G (q) hT a1 u hq) mv_X10_136 (zk1 (hs 0 (by decide))) ⟨Nat.le_of_ble_eq_true rfl, Nat.le_of_ble_eq_true rfl⟩ rfl rfl (Nat.le_of_ble_eq_true rfl) dX10_off_2 (fun H locs hW hS hT => ?_)
    clear hq
    have hs := hT.1
    refine lv_aload_n hx hb dX10_off_5 rfl (lv_at hl 0 rfl) ?_
    refine z_getr (o := 6) C0 hW fl_X10_28 (zk1 (hs 0 (by decide))) rfl (zk3 (hs 0 (by decide)) 2) dX10_off_6 ?_
    refine z_getr (o := 7) C0 hW fl_X10_139 (zT0 hT).1 rfl ((zT0 hT).2.1 0 (by decide)).1 dX10_off_9 ?_
    refine lv_iload_n hx hb dX10_off_12 rfl (lv_at hl 1 rfl) ?_
    replace h := z_if h
    obtain ⟨hin, h⟩ := h
    refine z_iald (n := 8) C0 hW ((zT0 hT).2.1 0 (by decide)).2.1 ((zT0 hT).2.1 0 (by decide)).2.2 hin rfl dX10_off_13 ?_
    clear hin
    refine lv_topi (fun z4 e1 => ?_)
    replace h := z_ly h e1
    clear e1
    refine lv_iconst (v := (-1 : Int32)) hx hb dX10_off_14 (by decide) ?_
    refine lv_icmp_ne (tgt := 29) hx hb dX10_off_15 (by decide) (fun hc => ?_) (fun hc => ?_)
    · replace h := z_f h hc
      clear hc
      refine lv_aload_n hx hb dX10_off_29 rfl (lv_at hl 0 rfl) ?_
      replace h := z_bd3 h
      obtain ⟨w5, q7, u6, hq, h⟩ := h
      refine z_cvTv (As := []) C0 hml hl.1 hW hS (c_X10_rememberAct l D A b G (q3) hT u2 hq) mv_X10_271 (zk1 (hs 0 (by decide))) ⟨Nat.le_of_ble_eq_true rfl, Nat.le_of_ble_eq_true rfl⟩ rfl rfl (Nat.le_of_ble_eq_true rfl) dX10_off_30 (fun H locs hW hS hT => ?_)
      clear hq
      have hs := hT.1
      refine lv_aload_n hx hb dX10_off_33 rfl (lv_at hl 0 rfl) ?_
      refine z_getr (o := 6) C0 hW fl_X10_28 (zk1 (hs 0 (by decide))) rfl (zk3 (hs 0 (by decide)) 2) dX10_off_34 ?_
      refine lv_iload_n hx hb dX10_off_37 rfl (lv_at hl 1 rfl) ?_
      replace h := z_bd h
      obtain ⟨u8, hq, h⟩ := h
      refine z_cvv (As := [.int a1]) C0 hml hl.1 hW hS (c_X9_getOff l D A b (zg G q7) 6 (q7 0) (zT0 hT) a1 u6 hq) mv_X10_282 (zT0 hT).1 ⟨Nat.le_of_ble_eq_true rfl, Nat.le_of_ble_eq_true rfl⟩ rfl rfl (Nat.le_of_ble_eq_true rfl) dX10_off_38 (fun H locs hW hS => ?_)
      clear hq
      refine lv_aload_n hx hb dX10_off_41 rfl (lv_at hl 0 rfl) ?_
      refine z_getr (o := 6) C0 hW fl_X10_28 (zk1 (hs 0 (by decide))) rfl (zk3 (hs 0 (by decide)) 2) dX10_off_42 ?_
      refine z_geti C0 hW fl_X10_248 (zT0 hT).1 rfl dX10_off_45 ?_
      cases h
    · replace h := z_t h hc
      clear hc
      cases h
      exact z_thrW (k := 7) (tx := "it waits") C0 hst hml hl.1 hW hS hT hex hlk tw_266_270 (List.mem_of_getElem? (i := 7) rfl) ⟨Nat.le_of_ble_eq_true rfl, Nat.le_of_ble_eq_true rfl⟩ ⟨Nat.le_of_ble_eq_true rfl, Nat.le_of_ble_eq_true rfl⟩ dX10_off_18 dX10_off_21 dX10_off_22 dX10_off_25 dX10_off_28
def f_X10_bolt (q : zq) (a1 : Int32) (u : zU) : Option ((String ⊕ Int32) × zq × zU) :=
  z_bx (f_X10_needCradle (q) a1 u) (fun w1 q3 u2 => if z_in a1 8 = true then (z_let (u2 12 (a1).toNatClampNeg) (fun z4 => if z4 < (9 : Int32) then (z_b3 (f_X10_rememberAct (q3) u2) (fun w5 q7 u6 => if z_in a1 8 = true then (z_let (u6 12 (a1).toNatClampNeg) (fun z8 => if z_in a1 8 = true then (z_let (z_up u6 12 (a1).toNatClampNeg (z8 + (1 : Int32))) (fun u9 => if z_in a1 8 = true then (z_let (u9 12 (a1).toNatClampNeg) (fun z10 => some (.inr z10, q7, u9))) else none)) else none)) else none)) else (some (.inl "java/lang/IllegalStateException", q3, u2)))) else none)
theorem f_X10_bolt_e (q : zq) (a1 : Int32) (u : zU) : f_X10_bolt q a1 u = z_bx (f_X10_needCradle (q) a1 u) (fun w1 q3 u2 => if z_in a1 8 = true then (z_let (u2 12 (a1).toNatClampNeg) (fun z4 => if z4 < (9 : Int32) then (z_b3 (f_X10_rememberAct (q3) u2) (fun w5 q7 u6 => if z_in a1 8 = true then (z_let (u6 12 (a1).toNatClampNeg) (fun z8 => if z_in a1 8 = true then (z_let (z_up u6 12 (a1).toNatClampNeg (z8 + (1 : Int32))) (fun u9 => if z_in a1 8 = true then (z_let (u9 12 (a1).toNatClampNeg) (fun z10 => some (.inr z10, q7, u9))) else none)) else none)) else none)) else (some (.inl "java/lang/IllegalStateException", q3, u2)))) else none) := rfl
set_option maxRecDepth 100000 in
set_option maxHeartbeats 4000000 in
theorem c_X10_bolt (l : Launch) (D : zD) (A : Nat → Prop) (b : Nat) (G : zG) (q : zq) (hT : zTop G q) (a1 : Int32) (u : zU) {v : Int32} {q' : zq} {u' : zU} (h : f_X10_bolt q a1 u = some (.inr v, q', u')) : z_MT l D A b G yX10_bolt cX10_bolt 2 (some .int) 7 128 [.ref (b + 0), .int a1] q u (some (.int v)) q' u' := by
  refine z_enterT (by decide) (Nat.le_of_ble_eq_true rfl) ?_
  intro p e s m below meth c ls C0 hr hml hlk hW hS hl
  have hl : lv_has ls 2 [(0, .ref (b + 0)), (1, .int a1)] := hl
  have hx := C0.1
  have hb := C0.2.1
  have hs := hT.1
  rw [f_X10_bolt_e] at h
  refine lv_iload_n hx hb dX10_bolt_0 rfl (lv_at hl 1 rfl) ?_
  replace h := z_bxd h
  rcases h with ⟨E1, hq, hE⟩ | ⟨w1, q3, u2, hq, h⟩
  · cases hE
  · refine z_csTv (As := [.int a1]) C0 hml hl.1 hW hS (c_X10_needCradle l D A b G (q) hT a1 u hq) ms_X10_174 ⟨Nat.le_of_ble_eq_true rfl, Nat.le_of_ble_eq_true rfl⟩ rfl rfl (Nat.le_of_ble_eq_true rfl) dX10_bolt_1 (fun H locs hW hS hT => ?_)
    clear hq
    have hs := hT.1
    refine lv_aload_n hx hb dX10_bolt_4 rfl (lv_at hl 0 rfl) ?_
    refine z_getr (o := 6) C0 hW fl_X10_28 (zk1 (hs 0 (by decide))) rfl (zk3 (hs 0 (by decide)) 2) dX10_bolt_5 ?_
    refine z_getr (o := 12) C0 hW fl_X10_177 (zT0 hT).1 rfl ((zT0 hT).2.1 5 (by decide)).1 dX10_bolt_8 ?_
    refine lv_iload_n hx hb dX10_bolt_11 rfl (lv_at hl 1 rfl) ?_
    replace h := z_if h
    obtain ⟨hin, h⟩ := h
    refine z_iald (n := 8) C0 hW ((zT0 hT).2.1 5 (by decide)).2.1 ((zT0 hT).2.1 5 (by decide)).2.2 hin rfl dX10_bolt_12 ?_
    clear hin
    refine lv_topi (fun z4 e1 => ?_)
    replace h := z_ly h e1
    clear e1
    refine lv_bipush (v := (9 : Int32)) hx hb dX10_bolt_13 (by decide) ?_
    refine lv_icmp_lt (tgt := 29) hx hb dX10_bolt_15 (by decide) (fun hc => ?_) (fun hc => ?_)
    · replace h := z_t h hc
      clear hc
      refine lv_aload_n hx hb dX10_bolt_29 rfl (lv_at hl 0 rfl) ?_
      replace h := z_bd3 h
      obtain ⟨w5, q7, u6, hq, h⟩ := h
      refine z_cvTv (As := []) C0 hml hl.1 hW hS (c_X10_rememberAct l D A b G (q3) hT u2 hq) mv_X10_271 (zk1 (hs 0 (by decide))) ⟨Nat.le_of_ble_eq_true rfl, Nat.le_of_ble_eq_true rfl⟩ rfl rfl (Nat.le_of_ble_eq_true rfl) dX10_bolt_30 (fun H locs hW hS hT => ?_)
      clear hq
      have hs := hT.1
      refine lv_aload_n hx hb dX10_bolt_33 rfl (lv_at hl 0 rfl) ?_
      refine z_getr (o := 6) C0 hW fl_X10_28 (zk1 (hs 0 (by decide))) rfl (zk3 (hs 0 (by decide)) 2) dX10_bolt_34 ?_
      refine z_getr (o := 12) C0 hW fl_X10_177 (zT0 hT).1 rfl ((zT0 hT).2.1 5 (by decide)).1 dX10_bolt_37 ?_
      refine lv_iload_n hx hb dX10_bolt_40 rfl (lv_at hl 1 rfl) ?_
      refine lv_dup2_11 hx hb dX10_bolt_41 rfl rfl ?_
      replace h := z_if h
      obtain ⟨hin, h⟩ := h
      refine z_iald (n := 8) C0 hW ((zT0 hT).2.1 5 (by decide)).2.1 ((zT0 hT).2.1 5 (by decide)).2.2 hin rfl dX10_bolt_42 ?_
      clear hin
      refine lv_topi (fun z8 e1 => ?_)
      replace h := z_ly h e1
      clear e1
      refine lv_iconst (v := (1 : Int32)) hx hb dX10_bolt_43 (by decide) ?_
      refine lv_iadd hx hb dX10_bolt_44 ?_
      replace h := z_if h
      obtain ⟨hin, h⟩ := h
      refine z_iast (n := 8) C0 hW hS ((zT0 hT).2.1 5 (by decide)).2.1 ((zT0 hT).2.1 5 (by decide)).2.2 hin rfl dX10_bolt_45 (fun H locs u9 e1 hW hS => ?_)
      replace h := z_ly h e1
      clear e1
      refine lv_aload_n hx hb dX10_bolt_46 rfl (lv_at hl 0 rfl) ?_
      refine z_getr (o := 6) C0 hW fl_X10_28 (zk1 (hs 0 (by decide))) rfl (zk3 (hs 0 (by decide)) 2) dX10_bolt_47 ?_
      refine z_getr (o := 12) C0 hW fl_X10_177 (zT0 hT).1 rfl ((zT0 hT).2.1 5 (by decide)).1 dX10_bolt_50 ?_
      refine lv_iload_n hx hb dX10_bolt_53 rfl (lv_at hl 1 rfl) ?_
      replace h := z_if h
      obtain ⟨hin, h⟩ := h
      refine z_iald (n := 8) C0 hW ((zT0 hT).2.1 5 (by decide)).2.1 ((zT0 hT).2.1 5 (by decide)).2.2 hin rfl dX10_bolt_54 ?_
      clear hin
      refine lv_topi (fun z10 e1 => ?_)
      replace h := z_ly h e1
      clear e1
      cases h
      exact z_iretT C0 hr hlk hW hS hT dX10_bolt_55
    · replace h := z_f h hc
      clear hc
      cases h
set_option maxRecDepth 100000 in
set_option maxHeartbeats 4000000 in
theorem t_X10_bolt (l : Launch) (D : zD) (A : Nat → Prop) (b : Nat) (G : zG) (q : zq) (hT : zTop G q) (hst : l.stackTraces = false) (a1 : Int32) (u : zU) {E : String} {q' : zq} {u' : zU} (h : f_X10_bolt q a1 u = some (.inl E, q', u')) : z_TX l D A b G yX10_bolt cX10_bolt 2 (some .int) 7 128 [.ref (b + 0), .int a1] q u E q' u' := by
  refine z_enterX (by decide) (Nat.le_of_ble_eq_true rfl) ?_
  intro p e s m below meth c ls C0 hex hml hlk hW hS hl
  have hl : lv_has ls 2 [(0, .ref (b + 0)), (1, .int a1)] := hl
  have hx := C0.1
  have hb := C0.2.1
  have hs := hT.1
  rw [f_X10_bolt_e] at h
  refine lv_iload_n hx hb dX10_bolt_0 rfl (lv_at hl 1 rfl) ?_
  replace h := z_bxd h
  rcases h with ⟨E1, hq, hE⟩ | ⟨w1, q3, u2, hq, h⟩
  · cases hE
    exact z_csX (As := [.int a1]) C0 hml hl.1 hW hS hex hlk (t_X10_needCradle l D A b G (q) hT hst a1 u hq) ms_X10_174 ⟨Nat.le_of_ble_eq_true rfl, Nat.le_of_ble_eq_true rfl⟩ ⟨Nat.le_of_ble_eq_true rfl, Nat.le_of_ble_eq_true rfl⟩ rfl rfl (Nat.le_of_ble_eq_true rfl) dX10_bolt_1
  · refine z_csTv (As := [.int a1]) C0 hml hl.1 hW hS (c_X10_needCradle l D A b G (q) hT a1 u hq) ms_X10_174 ⟨Nat.le_of_ble_eq_true rfl, Nat.le_of_ble_eq_true rfl⟩ rfl rfl (Nat.le_of_ble_eq_true rfl) dX10_bolt_1 (fun H locs hW hS hT => ?_)
    clear hq
    have hs := hT.1
    refine lv_aload_n hx hb dX10_bolt_4 rfl (lv_at hl 0 rfl) ?_
    refine z_getr (o := 6) C0 hW fl_X10_28 (zk1 (hs 0 (by decide))) rfl (zk3 (hs 0 (by decide)) 2) dX10_bolt_5 ?_
    refine z_getr (o := 12) C0 hW fl_X10_177 (zT0 hT).1 rfl ((zT0 hT).2.1 5 (by decide)).1 dX10_bolt_8 ?_
    refine lv_iload_n hx hb dX10_bolt_11 rfl (lv_at hl 1 rfl) ?_
    replace h := z_if h
    obtain ⟨hin, h⟩ := h
    refine z_iald (n := 8) C0 hW ((zT0 hT).2.1 5 (by decide)).2.1 ((zT0 hT).2.1 5 (by decide)).2.2 hin rfl dX10_bolt_12 ?_
    clear hin
    refine lv_topi (fun z4 e1 => ?_)
    replace h := z_ly h e1
    clear e1
    refine lv_bipush (v := (9 : Int32)) hx hb dX10_bolt_13 (by decide) ?_
    refine lv_icmp_lt (tgt := 29) hx hb dX10_bolt_15 (by decide) (fun hc => ?_) (fun hc => ?_)
    · replace h := z_t h hc
      clear hc
      refine lv_aload_n hx hb dX10_bolt_29 rfl (lv_at hl 0 rfl) ?_
      replace h := z_bd3 h
      obtain ⟨w5, q7, u6, hq, h⟩ := h
      refine z_cvTv (As := []) C0 hml hl.1 hW hS (c_X10_rememberAct l D A b G (q3) hT u2 hq) mv_X10_271 (zk1 (hs 0 (by decide))) ⟨Nat.le_of_ble_eq_true rfl, Nat.le_of_ble_eq_true rfl⟩ rfl rfl (Nat.le_of_ble_eq_true rfl) dX10_bolt_30 (fun H locs hW hS hT => ?_)
      clear hq
      have hs := hT.1
      refine lv_aload_n hx hb dX10_bolt_33 rfl (lv_at hl 0 rfl) ?_
      refine z_getr (o := 6) C0 hW fl_X10_28 (zk1 (hs 0 (by decide))) rfl (zk3 (hs 0 (by decide)) 2) dX10_bolt_34 ?_
      refine z_getr (o := 12) C0 hW fl_X10_177 (zT0 hT).1 rfl ((zT0 hT).2.1 5 (by decide)).1 dX10_bolt_37 ?_
      refine lv_iload_n hx hb dX10_bolt_40 rfl (lv_at hl 1 rfl) ?_
      refine lv_dup2_11 hx hb dX10_bolt_41 rfl rfl ?_
      replace h := z_if h
      obtain ⟨hin, h⟩ := h
      refine z_iald (n := 8) C0 hW ((zT0 hT).2.1 5 (by decide)).2.1 ((zT0 hT).2.1 5 (by decide)).2.2 hin rfl dX10_bolt_42 ?_
      clear hin
      refine lv_topi (fun z8 e1 => ?_)
      replace h := z_ly h e1
      clear e1
      refine lv_iconst (v := (1 : Int32)) hx hb dX10_bolt_43 (by decide) ?_
      refine lv_iadd hx hb dX10_bolt_44 ?_
      replace h := z_if h
      obtain ⟨hin, h⟩ := h
      refine z_iast (n := 8) C0 hW hS ((zT0 hT).2.1 5 (by decide)).2.1 ((zT0 hT).2.1 5 (by decide)).2.2 hin rfl dX10_bolt_45 (fun H locs u9 e1 hW hS => ?_)
      replace h := z_ly h e1
      clear e1
      refine lv_aload_n hx hb dX10_bolt_46 rfl (lv_at hl 0 rfl) ?_
      refine z_getr (o := 6) C0 hW fl_X10_28 (zk1 (hs 0 (by decide))) rfl (zk3 (hs 0 (by decide)) 2) dX10_bolt_47 ?_
      refine z_getr (o := 12) C0 hW fl_X10_177 (zT0 hT).1 rfl ((zT0 hT).2.1 5 (by decide)).1 dX10_bolt_50 ?_
      refine lv_iload_n hx hb dX10_bolt_53 rfl (lv_at hl 1 rfl) ?_
      replace h := z_if h
      obtain ⟨hin, h⟩ := h
      refine z_iald (n := 8) C0 hW ((zT0 hT).2.1 5 (by decide)).2.1 ((zT0 hT).2.1 5 (by decide)).2.2 hin rfl dX10_bolt_54 ?_
      clear hin
      refine lv_topi (fun z10 e1 => ?_)
      replace h := z_ly h e1
      clear e1
      cases h
    · replace h := z_f h hc
      clear hc
      cases h
      exact z_thrW (k := 8) (tx := "there are 9 bolts") C0 hst hml hl.1 hW hS hT hex hlk tw_266_270 (List.mem_of_getElem? (i := 8) rfl) ⟨Nat.le_of_ble_eq_true rfl, Nat.le_of_ble_eq_true rfl⟩ ⟨Nat.le_of_ble_eq_true rfl, Nat.le_of_ble_eq_true rfl⟩ dX10_bolt_18 dX10_bolt_21 dX10_bolt_22 dX10_bolt_25 dX10_bolt_28
def f_X10_dole (q : zq) (a1 : Int32) (a2 : Int32) (u : zU) : Option ((String ⊕ Int32) × zq × zU) :=
  z_bx (f_X10_needRider (q) a1 u) (fun w1 q3 u2 => z_bx (f_X10_needNumber (q3) a2 (1 : Int32) (u2 6 11) u2) (fun w4 q6 u5 => z_b3 (f_X10_rememberAct (q6) u5) (fun w7 q9 u8 => z_let (z_up u8 6 11 ((u8 6 11) - a2)) (fun u10 => if z_in a1 8 = true then (z_let (u10 9 (a1).toNatClampNeg) (fun z11 => z_let (z_min (999 : Int32) (z11 + a2)) (fun z12 => if z_in a1 8 = true then (z_let (z_up u10 9 (a1).toNatClampNeg z12) (fun u13 => if z_in a1 8 = true then (z_let (u13 9 (a1).toNatClampNeg) (fun z14 => some (.inr z14, q9, u13))) else none)) else none))) else none))))
theorem f_X10_dole_e (q : zq) (a1 : Int32) (a2 : Int32) (u : zU) : f_X10_dole q a1 a2 u = z_bx (f_X10_needRider (q) a1 u) (fun w1 q3 u2 => z_bx (f_X10_needNumber (q3) a2 (1 : Int32) (u2 6 11) u2) (fun w4 q6 u5 => z_b3 (f_X10_rememberAct (q6) u5) (fun w7 q9 u8 => z_let (z_up u8 6 11 ((u8 6 11) - a2)) (fun u10 => if z_in a1 8 = true then (z_let (u10 9 (a1).toNatClampNeg) (fun z11 => z_let (z_min (999 : Int32) (z11 + a2)) (fun z12 => if z_in a1 8 = true then (z_let (z_up u10 9 (a1).toNatClampNeg z12) (fun u13 => if z_in a1 8 = true then (z_let (u13 9 (a1).toNatClampNeg) (fun z14 => some (.inr z14, q9, u13))) else none)) else none))) else none)))) := rfl
set_option maxRecDepth 100000 in
set_option maxHeartbeats 4000000 in
theorem c_X10_dole (l : Launch) (D : zD) (A : Nat → Prop) (b : Nat) (G : zG) (q : zq) (hT : zTop G q) (a1 : Int32) (a2 : Int32) (u : zU) {v : Int32} {q' : zq} {u' : zU} (h : f_X10_dole q a1 a2 u = some (.inr v, q', u')) : z_MT l D A b G yX10_dole cX10_dole 3 (some .int) 7 128 [.ref (b + 0), .int a1, .int a2] q u (some (.int v)) q' u' := by
  refine z_enterT (by decide) (Nat.le_of_ble_eq_true rfl) ?_
  intro p e s m below meth c ls C0 hr hml hlk hW hS hl
  have hl : lv_has ls 3 [(0, .ref (b + 0)), (1, .int a1), (2, .int a2)] := hl
  have hx := C0.1
  have hb := C0.2.1
  have hs := hT.1
  rw [f_X10_dole_e] at h
  refine lv_aload_n hx hb dX10_dole_0 rfl (lv_at hl 0 rfl) ?_
  refine lv_iload_n hx hb dX10_dole_1 rfl (lv_at hl 1 rfl) ?_
  replace h := z_bxd h
  rcases h with ⟨E1, hq, hE⟩ | ⟨w1, q3, u2, hq, h⟩
  · cases hE
  · refine z_cvTv (As := [.int a1]) C0 hml hl.1 hW hS (c_X10_needRider l D A b G (q) hT a1 u hq) mv_X10_136 (zk1 (hs 0 (by decide))) ⟨Nat.le_of_ble_eq_true rfl, Nat.le_of_ble_eq_true rfl⟩ rfl rfl (Nat.le_of_ble_eq_true rfl) dX10_dole_2 (fun H locs hW hS hT => ?_)
    clear hq
    have hs := hT.1
    refine lv_iload_n hx hb dX10_dole_5 rfl (lv_at hl 2 rfl) ?_
    refine lv_iconst (v := (1 : Int32)) hx hb dX10_dole_6 (by decide) ?_
    refine lv_aload_n hx hb dX10_dole_7 rfl (lv_at hl 0 rfl) ?_
    refine z_getr (o := 6) C0 hW fl_X10_28 (zk1 (hs 0 (by decide))) rfl (zk3 (hs 0 (by decide)) 2) dX10_dole_8 ?_
    refine z_geti C0 hW fl_X10_239 (zT0 hT).1 rfl dX10_dole_11 ?_
    replace h := z_bxd h
    rcases h with ⟨E1, hq, hE⟩ | ⟨w4, q6, u5, hq, h⟩
    · cases hE
    · refine z_csTv (As := [.int a2, .int (1 : Int32), .int (u2 6 11)]) C0 hml hl.1 hW hS (c_X10_needNumber l D A b G (q3) hT a2 (1 : Int32) (u2 6 11) u2 hq) ms_X10_287 ⟨Nat.le_of_ble_eq_true rfl, Nat.le_of_ble_eq_true rfl⟩ rfl rfl (Nat.le_of_ble_eq_true rfl) dX10_dole_14 (fun H locs hW hS hT => ?_)
      clear hq
      have hs := hT.1
      refine lv_aload_n hx hb dX10_dole_17 rfl (lv_at hl 0 rfl) ?_
      replace h := z_bd3 h
      obtain ⟨w7, q9, u8, hq, h⟩ := h
      refine z_cvTv (As := []) C0 hml hl.1 hW hS (c_X10_rememberAct l D A b G (q6) hT u5 hq) mv_X10_271 (zk1 (hs 0 (by decide))) ⟨Nat.le_of_ble_eq_true rfl, Nat.le_of_ble_eq_true rfl⟩ rfl rfl (Nat.le_of_ble_eq_true rfl) dX10_dole_18 (fun H locs hW hS hT => ?_)
      clear hq
      have hs := hT.1
      refine lv_aload_n hx hb dX10_dole_21 rfl (lv_at hl 0 rfl) ?_
      refine z_getr (o := 6) C0 hW fl_X10_28 (zk1 (hs 0 (by decide))) rfl (zk3 (hs 0 (by decide)) 2) dX10_dole_22 ?_
      refine lv_dup hx hb dX10_dole_25 rfl ?_
      refine z_geti C0 hW fl_X10_239 (zT0 hT).1 rfl dX10_dole_26 ?_
      refine lv_iload_n hx hb dX10_dole_29 rfl (lv_at hl 2 rfl) ?_
      refine lv_isub hx hb dX10_dole_30 ?_
      refine z_puti C0 hW hS fl_X10_239 (zT0 hT).1 rfl rfl rfl dX10_dole_31 (fun H locs u10 e1 hW hS => ?_)
      replace h := z_ly h e1
      clear e1
      refine lv_aload_n hx hb dX10_dole_34 rfl (lv_at hl 0 rfl) ?_
      refine z_getr (o := 6) C0 hW fl_X10_28 (zk1 (hs 0 (by decide))) rfl (zk3 (hs 0 (by decide)) 2) dX10_dole_35 ?_
      refine z_getr (o := 9) C0 hW fl_X10_146 (zT0 hT).1 rfl ((zT0 hT).2.1 2 (by decide)).1 dX10_dole_38 ?_
      refine lv_iload_n hx hb dX10_dole_41 rfl (lv_at hl 1 rfl) ?_
      refine lv_sipush (v := (999 : Int32)) hx hb dX10_dole_42 (by decide) ?_
      refine lv_aload_n hx hb dX10_dole_45 rfl (lv_at hl 0 rfl) ?_
      refine z_getr (o := 6) C0 hW fl_X10_28 (zk1 (hs 0 (by decide))) rfl (zk3 (hs 0 (by decide)) 2) dX10_dole_46 ?_
      refine z_getr (o := 9) C0 hW fl_X10_146 (zT0 hT).1 rfl ((zT0 hT).2.1 2 (by decide)).1 dX10_dole_49 ?_
      refine lv_iload_n hx hb dX10_dole_52 rfl (lv_at hl 1 rfl) ?_
      replace h := z_if h
      obtain ⟨hin, h⟩ := h
      refine z_iald (n := 8) C0 hW ((zT0 hT).2.1 2 (by decide)).2.1 ((zT0 hT).2.1 2 (by decide)).2.2 hin rfl dX10_dole_53 ?_
      clear hin
      refine lv_topi (fun z11 e1 => ?_)
      replace h := z_ly h e1
      clear e1
      refine lv_iload_n hx hb dX10_dole_54 rfl (lv_at hl 2 rfl) ?_
      refine lv_iadd hx hb dX10_dole_55 ?_
      refine va_mmin hx hb (hml.trans hl.1.symm) C0.2.2.2.1 (C0.2.2.1 _ w_mm_X10_291) (C0.2.2.1 _ w_mst_min) (C0.2.2.1 _ w_min_Math) (C0.2.2.1 _ w_mco_min) (Nat.le_of_ble_eq_true rfl) (Nat.le_of_ble_eq_true rfl) (Nat.zero_le _) (Nat.zero_le _) dX10_dole_56 ?_
      refine lv_topi (fun z12 e1 => ?_)
      replace h := z_ly h e1
      clear e1
      replace h := z_if h
      obtain ⟨hin, h⟩ := h
      refine z_iast (n := 8) C0 hW hS ((zT0 hT).2.1 2 (by decide)).2.1 ((zT0 hT).2.1 2 (by decide)).2.2 hin rfl dX10_dole_59 (fun H locs u13 e1 hW hS => ?_)
      replace h := z_ly h e1
      clear e1
      refine lv_aload_n hx hb dX10_dole_60 rfl (lv_at hl 0 rfl) ?_
      refine z_getr (o := 6) C0 hW fl_X10_28 (zk1 (hs 0 (by decide))) rfl (zk3 (hs 0 (by decide)) 2) dX10_dole_61 ?_
      refine z_getr (o := 9) C0 hW fl_X10_146 (zT0 hT).1 rfl ((zT0 hT).2.1 2 (by decide)).1 dX10_dole_64 ?_
      refine lv_iload_n hx hb dX10_dole_67 rfl (lv_at hl 1 rfl) ?_
      replace h := z_if h
      obtain ⟨hin, h⟩ := h
      refine z_iald (n := 8) C0 hW ((zT0 hT).2.1 2 (by decide)).2.1 ((zT0 hT).2.1 2 (by decide)).2.2 hin rfl dX10_dole_68 ?_
      clear hin
      refine lv_topi (fun z14 e1 => ?_)
      replace h := z_ly h e1
      clear e1
      cases h
      exact z_iretT C0 hr hlk hW hS hT dX10_dole_69
set_option maxRecDepth 100000 in
set_option maxHeartbeats 4000000 in
theorem t_X10_dole (l : Launch) (D : zD) (A : Nat → Prop) (b : Nat) (G : zG) (q : zq) (hT : zTop G q) (hst : l.stackTraces = false) (a1 : Int32) (a2 : Int32) (u : zU) {E : String} {q' : zq} {u' : zU} (h : f_X10_dole q a1 a2 u = some (.inl E, q', u')) : z_TX l D A b G yX10_dole cX10_dole 3 (some .int) 7 128 [.ref (b + 0), .int a1, .int a2] q u E q' u' := by
  refine z_enterX (by decide) (Nat.le_of_ble_eq_true rfl) ?_
  intro p e s m below meth c ls C0 hex hml hlk hW hS hl
  have hl : lv_has ls 3 [(0, .ref (b + 0)), (1, .int a1), (2, .int a2)] := hl
  have hx := C0.1
  have hb := C0.2.1
  have hs := hT.1
  rw [f_X10_dole_e] at h
  refine lv_aload_n hx hb dX10_dole_0 rfl (lv_at hl 0 rfl) ?_
  refine lv_iload_n hx hb dX10_dole_1 rfl (lv_at hl 1 rfl) ?_
  replace h := z_bxd h
  rcases h with ⟨E1, hq, hE⟩ | ⟨w1, q3, u2, hq, h⟩
  · cases hE
    exact z_cvX (As := [.int a1]) C0 hml hl.1 hW hS hex hlk (t_X10_needRider l D A b G (q) hT hst a1 u hq) mv_X10_136 (zk1 (hs 0 (by decide))) ⟨Nat.le_of_ble_eq_true rfl, Nat.le_of_ble_eq_true rfl⟩ ⟨Nat.le_of_ble_eq_true rfl, Nat.le_of_ble_eq_true rfl⟩ rfl rfl (Nat.le_of_ble_eq_true rfl) dX10_dole_2
  · refine z_cvTv (As := [.int a1]) C0 hml hl.1 hW hS (c_X10_needRider l D A b G (q) hT a1 u hq) mv_X10_136 (zk1 (hs 0 (by decide))) ⟨Nat.le_of_ble_eq_true rfl, Nat.le_of_ble_eq_true rfl⟩ rfl rfl (Nat.le_of_ble_eq_true rfl) dX10_dole_2 (fun H locs hW hS hT => ?_)
    clear hq
    have hs := hT.1
    refine lv_iload_n hx hb dX10_dole_5 rfl (lv_at hl 2 rfl) ?_
    refine lv_iconst (v := (1 : Int32)) hx hb dX10_dole_6 (by decide) ?_
    refine lv_aload_n hx hb dX10_dole_7 rfl (lv_at hl 0 rfl) ?_
    refine z_getr (o := 6) C0 hW fl_X10_28 (zk1 (hs 0 (by decide))) rfl (zk3 (hs 0 (by decide)) 2) dX10_dole_8 ?_
    refine z_geti C0 hW fl_X10_239 (zT0 hT).1 rfl dX10_dole_11 ?_
    replace h := z_bxd h
    rcases h with ⟨E1, hq, hE⟩ | ⟨w4, q6, u5, hq, h⟩
    · cases hE
      exact z_csX (As := [.int a2, .int (1 : Int32), .int (u2 6 11)]) C0 hml hl.1 hW hS hex hlk (t_X10_needNumber l D A b G (q3) hT hst a2 (1 : Int32) (u2 6 11) u2 hq) ms_X10_287 ⟨Nat.le_of_ble_eq_true rfl, Nat.le_of_ble_eq_true rfl⟩ ⟨Nat.le_of_ble_eq_true rfl, Nat.le_of_ble_eq_true rfl⟩ rfl rfl (Nat.le_of_ble_eq_true rfl) dX10_dole_14
    · refine z_csTv (As := [.int a2, .int (1 : Int32), .int (u2 6 11)]) C0 hml hl.1 hW hS (c_X10_needNumber l D A b G (q3) hT a2 (1 : Int32) (u2 6 11) u2 hq) ms_X10_287 ⟨Nat.le_of_ble_eq_true rfl, Nat.le_of_ble_eq_true rfl⟩ rfl rfl (Nat.le_of_ble_eq_true rfl) dX10_dole_14 (fun H locs hW hS hT => ?_)
      clear hq
      have hs := hT.1
      refine lv_aload_n hx hb dX10_dole_17 rfl (lv_at hl 0 rfl) ?_
      replace h := z_bd3 h
      obtain ⟨w7, q9, u8, hq, h⟩ := h
      refine z_cvTv (As := []) C0 hml hl.1 hW hS (c_X10_rememberAct l D A b G (q6) hT u5 hq) mv_X10_271 (zk1 (hs 0 (by decide))) ⟨Nat.le_of_ble_eq_true rfl, Nat.le_of_ble_eq_true rfl⟩ rfl rfl (Nat.le_of_ble_eq_true rfl) dX10_dole_18 (fun H locs hW hS hT => ?_)
      clear hq
      have hs := hT.1
      refine lv_aload_n hx hb dX10_dole_21 rfl (lv_at hl 0 rfl) ?_
      refine z_getr (o := 6) C0 hW fl_X10_28 (zk1 (hs 0 (by decide))) rfl (zk3 (hs 0 (by decide)) 2) dX10_dole_22 ?_
      refine lv_dup hx hb dX10_dole_25 rfl ?_
      refine z_geti C0 hW fl_X10_239 (zT0 hT).1 rfl dX10_dole_26 ?_
      refine lv_iload_n hx hb dX10_dole_29 rfl (lv_at hl 2 rfl) ?_
      refine lv_isub hx hb dX10_dole_30 ?_
      refine z_puti C0 hW hS fl_X10_239 (zT0 hT).1 rfl rfl rfl dX10_dole_31 (fun H locs u10 e1 hW hS => ?_)
      replace h := z_ly h e1
      clear e1
      refine lv_aload_n hx hb dX10_dole_34 rfl (lv_at hl 0 rfl) ?_
      refine z_getr (o := 6) C0 hW fl_X10_28 (zk1 (hs 0 (by decide))) rfl (zk3 (hs 0 (by decide)) 2) dX10_dole_35 ?_
      refine z_getr (o := 9) C0 hW fl_X10_146 (zT0 hT).1 rfl ((zT0 hT).2.1 2 (by decide)).1 dX10_dole_38 ?_
      refine lv_iload_n hx hb dX10_dole_41 rfl (lv_at hl 1 rfl) ?_
      refine lv_sipush (v := (999 : Int32)) hx hb dX10_dole_42 (by decide) ?_
      refine lv_aload_n hx hb dX10_dole_45 rfl (lv_at hl 0 rfl) ?_
      refine z_getr (o := 6) C0 hW fl_X10_28 (zk1 (hs 0 (by decide))) rfl (zk3 (hs 0 (by decide)) 2) dX10_dole_46 ?_
      refine z_getr (o := 9) C0 hW fl_X10_146 (zT0 hT).1 rfl ((zT0 hT).2.1 2 (by decide)).1 dX10_dole_49 ?_
      refine lv_iload_n hx hb dX10_dole_52 rfl (lv_at hl 1 rfl) ?_
      replace h := z_if h
      obtain ⟨hin, h⟩ := h
      refine z_iald (n := 8) C0 hW ((zT0 hT).2.1 2 (by decide)).2.1 ((zT0 hT).2.1 2 (by decide)).2.2 hin rfl dX10_dole_53 ?_
      clear hin
      refine lv_topi (fun z11 e1 => ?_)
      replace h := z_ly h e1
      clear e1
      refine lv_iload_n hx hb dX10_dole_54 rfl (lv_at hl 2 rfl) ?_
      refine lv_iadd hx hb dX10_dole_55 ?_
      refine va_mmin hx hb (hml.trans hl.1.symm) C0.2.2.2.1 (C0.2.2.1 _ w_mm_X10_291) (C0.2.2.1 _ w_mst_min) (C0.2.2.1 _ w_min_Math) (C0.2.2.1 _ w_mco_min) (Nat.le_of_ble_eq_true rfl) (Nat.le_of_ble_eq_true rfl) (Nat.zero_le _) (Nat.zero_le _) dX10_dole_56 ?_
      refine lv_topi (fun z12 e1 => ?_)
      replace h := z_ly h e1
      clear e1
      replace h := z_if h
      obtain ⟨hin, h⟩ := h
      refine z_iast (n := 8) C0 hW hS ((zT0 hT).2.1 2 (by decide)).2.1 ((zT0 hT).2.1 2 (by decide)).2.2 hin rfl dX10_dole_59 (fun H locs u13 e1 hW hS => ?_)
      replace h := z_ly h e1
      clear e1
      refine lv_aload_n hx hb dX10_dole_60 rfl (lv_at hl 0 rfl) ?_
      refine z_getr (o := 6) C0 hW fl_X10_28 (zk1 (hs 0 (by decide))) rfl (zk3 (hs 0 (by decide)) 2) dX10_dole_61 ?_
      refine z_getr (o := 9) C0 hW fl_X10_146 (zT0 hT).1 rfl ((zT0 hT).2.1 2 (by decide)).1 dX10_dole_64 ?_
      refine lv_iload_n hx hb dX10_dole_67 rfl (lv_at hl 1 rfl) ?_
      replace h := z_if h
      obtain ⟨hin, h⟩ := h
      refine z_iald (n := 8) C0 hW ((zT0 hT).2.1 2 (by decide)).2.1 ((zT0 hT).2.1 2 (by decide)).2.2 hin rfl dX10_dole_68 ?_
      clear hin
      refine lv_topi (fun z14 e1 => ?_)
      replace h := z_ly h e1
      clear e1
      cases h
def f_X10_fare (q : zq) (a1 : Int32) (u : zU) : Option ((String ⊕ Int32) × zq × zU) :=
  z_bx (f_X10_needNumber (q) a1 (0 : Int32) (99 : Int32) u) (fun w1 q3 u2 => z_b3 (f_X10_rememberAct (q3) u2) (fun w4 q6 u5 => z_let (u5 6 10) (fun z7 => z_let (z_up u5 6 10 a1) (fun u8 => some (.inr z7, q6, u8)))))
theorem f_X10_fare_e (q : zq) (a1 : Int32) (u : zU) : f_X10_fare q a1 u = z_bx (f_X10_needNumber (q) a1 (0 : Int32) (99 : Int32) u) (fun w1 q3 u2 => z_b3 (f_X10_rememberAct (q3) u2) (fun w4 q6 u5 => z_let (u5 6 10) (fun z7 => z_let (z_up u5 6 10 a1) (fun u8 => some (.inr z7, q6, u8))))) := rfl
set_option maxRecDepth 100000 in
set_option maxHeartbeats 4000000 in
theorem c_X10_fare (l : Launch) (D : zD) (A : Nat → Prop) (b : Nat) (G : zG) (q : zq) (hT : zTop G q) (a1 : Int32) (u : zU) {v : Int32} {q' : zq} {u' : zU} (h : f_X10_fare q a1 u = some (.inr v, q', u')) : z_MT l D A b G yX10_fare cX10_fare 3 (some .int) 7 128 [.ref (b + 0), .int a1] q u (some (.int v)) q' u' := by
  refine z_enterT (by decide) (Nat.le_of_ble_eq_true rfl) ?_
  intro p e s m below meth c ls C0 hr hml hlk hW hS hl
  have hl : lv_has ls 3 [(0, .ref (b + 0)), (1, .int a1)] := hl
  have hx := C0.1
  have hb := C0.2.1
  have hs := hT.1
  rw [f_X10_fare_e] at h
  refine lv_iload_n hx hb dX10_fare_0 rfl (lv_at hl 1 rfl) ?_
  refine lv_iconst (v := (0 : Int32)) hx hb dX10_fare_1 (by decide) ?_
  refine lv_bipush (v := (99 : Int32)) hx hb dX10_fare_2 (by decide) ?_
  replace h := z_bxd h
  rcases h with ⟨E1, hq, hE⟩ | ⟨w1, q3, u2, hq, h⟩
  · cases hE
  · refine z_csTv (As := [.int a1, .int (0 : Int32), .int (99 : Int32)]) C0 hml hl.1 hW hS (c_X10_needNumber l D A b G (q) hT a1 (0 : Int32) (99 : Int32) u hq) ms_X10_287 ⟨Nat.le_of_ble_eq_true rfl, Nat.le_of_ble_eq_true rfl⟩ rfl rfl (Nat.le_of_ble_eq_true rfl) dX10_fare_4 (fun H locs hW hS hT => ?_)
    clear hq
    have hs := hT.1
    refine lv_aload_n hx hb dX10_fare_7 rfl (lv_at hl 0 rfl) ?_
    replace h := z_bd3 h
    obtain ⟨w4, q6, u5, hq, h⟩ := h
    refine z_cvTv (As := []) C0 hml hl.1 hW hS (c_X10_rememberAct l D A b G (q3) hT u2 hq) mv_X10_271 (zk1 (hs 0 (by decide))) ⟨Nat.le_of_ble_eq_true rfl, Nat.le_of_ble_eq_true rfl⟩ rfl rfl (Nat.le_of_ble_eq_true rfl) dX10_fare_8 (fun H locs hW hS hT => ?_)
    clear hq
    have hs := hT.1
    refine lv_aload_n hx hb dX10_fare_11 rfl (lv_at hl 0 rfl) ?_
    refine z_getr (o := 6) C0 hW fl_X10_28 (zk1 (hs 0 (by decide))) rfl (zk3 (hs 0 (by decide)) 2) dX10_fare_12 ?_
    refine z_geti C0 hW fl_X10_152 (zT0 hT).1 rfl dX10_fare_15 ?_
    refine lv_topi (fun z7 e1 => ?_)
    replace h := z_ly h e1
    clear e1
    refine lv_istore_n (lv' := [(2, .int z7), (0, .ref (b + 0)), (1, .int a1)]) hx hb dX10_fare_18 rfl hl (by decide) rfl (fun ls hl => ?_)
    refine lv_aload_n hx hb dX10_fare_19 rfl (lv_at hl 1 rfl) ?_
    refine z_getr (o := 6) C0 hW fl_X10_28 (zk1 (hs 0 (by decide))) rfl (zk3 (hs 0 (by decide)) 2) dX10_fare_20 ?_
    refine lv_iload_n hx hb dX10_fare_23 rfl (lv_at hl 2 rfl) ?_
    refine z_puti C0 hW hS fl_X10_152 (zT0 hT).1 rfl rfl rfl dX10_fare_24 (fun H locs u8 e1 hW hS => ?_)
    replace h := z_ly h e1
    clear e1
    refine lv_iload_n hx hb dX10_fare_27 rfl (lv_at hl 0 rfl) ?_
    cases h
    exact z_iretT C0 hr hlk hW hS hT dX10_fare_28
set_option maxRecDepth 100000 in
set_option maxHeartbeats 4000000 in
theorem t_X10_fare (l : Launch) (D : zD) (A : Nat → Prop) (b : Nat) (G : zG) (q : zq) (hT : zTop G q) (hst : l.stackTraces = false) (a1 : Int32) (u : zU) {E : String} {q' : zq} {u' : zU} (h : f_X10_fare q a1 u = some (.inl E, q', u')) : z_TX l D A b G yX10_fare cX10_fare 3 (some .int) 7 128 [.ref (b + 0), .int a1] q u E q' u' := by
  refine z_enterX (by decide) (Nat.le_of_ble_eq_true rfl) ?_
  intro p e s m below meth c ls C0 hex hml hlk hW hS hl
  have hl : lv_has ls 3 [(0, .ref (b + 0)), (1, .int a1)] := hl
  have hx := C0.1
  have hb := C0.2.1
  have hs := hT.1
  rw [f_X10_fare_e] at h
  refine lv_iload_n hx hb dX10_fare_0 rfl (lv_at hl 1 rfl) ?_
  refine lv_iconst (v := (0 : Int32)) hx hb dX10_fare_1 (by decide) ?_
  refine lv_bipush (v := (99 : Int32)) hx hb dX10_fare_2 (by decide) ?_
  replace h := z_bxd h
  rcases h with ⟨E1, hq, hE⟩ | ⟨w1, q3, u2, hq, h⟩
  · cases hE
    exact z_csX (As := [.int a1, .int (0 : Int32), .int (99 : Int32)]) C0 hml hl.1 hW hS hex hlk (t_X10_needNumber l D A b G (q) hT hst a1 (0 : Int32) (99 : Int32) u hq) ms_X10_287 ⟨Nat.le_of_ble_eq_true rfl, Nat.le_of_ble_eq_true rfl⟩ ⟨Nat.le_of_ble_eq_true rfl, Nat.le_of_ble_eq_true rfl⟩ rfl rfl (Nat.le_of_ble_eq_true rfl) dX10_fare_4
  · refine z_csTv (As := [.int a1, .int (0 : Int32), .int (99 : Int32)]) C0 hml hl.1 hW hS (c_X10_needNumber l D A b G (q) hT a1 (0 : Int32) (99 : Int32) u hq) ms_X10_287 ⟨Nat.le_of_ble_eq_true rfl, Nat.le_of_ble_eq_true rfl⟩ rfl rfl (Nat.le_of_ble_eq_true rfl) dX10_fare_4 (fun H locs hW hS hT => ?_)
    clear hq
    have hs := hT.1
    refine lv_aload_n hx hb dX10_fare_7 rfl (lv_at hl 0 rfl) ?_
    replace h := z_bd3 h
    obtain ⟨w4, q6, u5, hq, h⟩ := h
    refine z_cvTv (As := []) C0 hml hl.1 hW hS (c_X10_rememberAct l D A b G (q3) hT u2 hq) mv_X10_271 (zk1 (hs 0 (by decide))) ⟨Nat.le_of_ble_eq_true rfl, Nat.le_of_ble_eq_true rfl⟩ rfl rfl (Nat.le_of_ble_eq_true rfl) dX10_fare_8 (fun H locs hW hS hT => ?_)
    clear hq
    have hs := hT.1
    refine lv_aload_n hx hb dX10_fare_11 rfl (lv_at hl 0 rfl) ?_
    refine z_getr (o := 6) C0 hW fl_X10_28 (zk1 (hs 0 (by decide))) rfl (zk3 (hs 0 (by decide)) 2) dX10_fare_12 ?_
    refine z_geti C0 hW fl_X10_152 (zT0 hT).1 rfl dX10_fare_15 ?_
    refine lv_topi (fun z7 e1 => ?_)
    replace h := z_ly h e1
    clear e1
    refine lv_istore_n (lv' := [(2, .int z7), (0, .ref (b + 0)), (1, .int a1)]) hx hb dX10_fare_18 rfl hl (by decide) rfl (fun ls hl => ?_)
    refine lv_aload_n hx hb dX10_fare_19 rfl (lv_at hl 1 rfl) ?_
    refine z_getr (o := 6) C0 hW fl_X10_28 (zk1 (hs 0 (by decide))) rfl (zk3 (hs 0 (by decide)) 2) dX10_fare_20 ?_
    refine lv_iload_n hx hb dX10_fare_23 rfl (lv_at hl 2 rfl) ?_
    refine z_puti C0 hW hS fl_X10_152 (zT0 hT).1 rfl rfl rfl dX10_fare_24 (fun H locs u8 e1 hW hS => ?_)
    replace h := z_ly h e1
    clear e1
    refine lv_iload_n hx hb dX10_fare_27 rfl (lv_at hl 0 rfl) ?_
    cases h
def f_X10_bribe (q : zq) (a1 : Int32) (u : zU) : Option ((String ⊕ Int32) × zq × zU) :=
  z_bx (f_X10_needNumber (q) a1 (1 : Int32) (7 : Int32) u) (fun w1 q3 u2 => if ((10 : Int32) * a1) ≤ (u2 6 11) then (z_b3 (f_X10_rememberAct (q3) u2) (fun w4 q6 u5 => z_let (z_up u5 6 11 ((u5 6 11) - ((10 : Int32) * a1))) (fun u7 => z_let (z_up u7 6 14 (((u7 6 14) + a1) &&& (7 : Int32))) (fun u8 => some (.inr (u8 6 14), q6, u8))))) else (some (.inl "java/lang/IllegalStateException", q3, u2)))
theorem f_X10_bribe_e (q : zq) (a1 : Int32) (u : zU) : f_X10_bribe q a1 u = z_bx (f_X10_needNumber (q) a1 (1 : Int32) (7 : Int32) u) (fun w1 q3 u2 => if ((10 : Int32) * a1) ≤ (u2 6 11) then (z_b3 (f_X10_rememberAct (q3) u2) (fun w4 q6 u5 => z_let (z_up u5 6 11 ((u5 6 11) - ((10 : Int32) * a1))) (fun u7 => z_let (z_up u7 6 14 (((u7 6 14) + a1) &&& (7 : Int32))) (fun u8 => some (.inr (u8 6 14), q6, u8))))) else (some (.inl "java/lang/IllegalStateException", q3, u2))) := rfl
set_option maxRecDepth 100000 in
set_option maxHeartbeats 4000000 in
theorem c_X10_bribe (l : Launch) (D : zD) (A : Nat → Prop) (b : Nat) (G : zG) (q : zq) (hT : zTop G q) (a1 : Int32) (u : zU) {v : Int32} {q' : zq} {u' : zU} (h : f_X10_bribe q a1 u = some (.inr v, q', u')) : z_MT l D A b G yX10_bribe cX10_bribe 2 (some .int) 7 128 [.ref (b + 0), .int a1] q u (some (.int v)) q' u' := by
  refine z_enterT (by decide) (Nat.le_of_ble_eq_true rfl) ?_
  intro p e s m below meth c ls C0 hr hml hlk hW hS hl
  have hl : lv_has ls 2 [(0, .ref (b + 0)), (1, .int a1)] := hl
  have hx := C0.1
  have hb := C0.2.1
  have hs := hT.1
  rw [f_X10_bribe_e] at h
  refine lv_iload_n hx hb dX10_bribe_0 rfl (lv_at hl 1 rfl) ?_
  refine lv_iconst (v := (1 : Int32)) hx hb dX10_bribe_1 (by decide) ?_
  refine lv_bipush (v := (7 : Int32)) hx hb dX10_bribe_2 (by decide) ?_
  replace h := z_bxd h
  rcases h with ⟨E1, hq, hE⟩ | ⟨w1, q3, u2, hq, h⟩
  · cases hE
  · refine z_csTv (As := [.int a1, .int (1 : Int32), .int (7 : Int32)]) C0 hml hl.1 hW hS (c_X10_needNumber l D A b G (q) hT a1 (1 : Int32) (7 : Int32) u hq) ms_X10_287 ⟨Nat.le_of_ble_eq_true rfl, Nat.le_of_ble_eq_true rfl⟩ rfl rfl (Nat.le_of_ble_eq_true rfl) dX10_bribe_4 (fun H locs hW hS hT => ?_)
    clear hq
    have hs := hT.1
    refine lv_aload_n hx hb dX10_bribe_7 rfl (lv_at hl 0 rfl) ?_
    refine z_getr (o := 6) C0 hW fl_X10_28 (zk1 (hs 0 (by decide))) rfl (zk3 (hs 0 (by decide)) 2) dX10_bribe_8 ?_
    refine z_geti C0 hW fl_X10_239 (zT0 hT).1 rfl dX10_bribe_11 ?_
    refine lv_bipush (v := (10 : Int32)) hx hb dX10_bribe_14 (by decide) ?_
    refine lv_iload_n hx hb dX10_bribe_16 rfl (lv_at hl 1 rfl) ?_
    refine lv_imul hx hb dX10_bribe_17 ?_
    refine lv_icmp_ge (tgt := 32) hx hb dX10_bribe_18 (by decide) (fun hc => ?_) (fun hc => ?_)
    · replace h := z_t h hc
      clear hc
      refine lv_aload_n hx hb dX10_bribe_32 rfl (lv_at hl 0 rfl) ?_
      replace h := z_bd3 h
      obtain ⟨w4, q6, u5, hq, h⟩ := h
      refine z_cvTv (As := []) C0 hml hl.1 hW hS (c_X10_rememberAct l D A b G (q3) hT u2 hq) mv_X10_271 (zk1 (hs 0 (by decide))) ⟨Nat.le_of_ble_eq_true rfl, Nat.le_of_ble_eq_true rfl⟩ rfl rfl (Nat.le_of_ble_eq_true rfl) dX10_bribe_33 (fun H locs hW hS hT => ?_)
      clear hq
      have hs := hT.1
      refine lv_aload_n hx hb dX10_bribe_36 rfl (lv_at hl 0 rfl) ?_
      refine z_getr (o := 6) C0 hW fl_X10_28 (zk1 (hs 0 (by decide))) rfl (zk3 (hs 0 (by decide)) 2) dX10_bribe_37 ?_
      refine lv_dup hx hb dX10_bribe_40 rfl ?_
      refine z_geti C0 hW fl_X10_239 (zT0 hT).1 rfl dX10_bribe_41 ?_
      refine lv_bipush (v := (10 : Int32)) hx hb dX10_bribe_44 (by decide) ?_
      refine lv_iload_n hx hb dX10_bribe_46 rfl (lv_at hl 1 rfl) ?_
      refine lv_imul hx hb dX10_bribe_47 ?_
      refine lv_isub hx hb dX10_bribe_48 ?_
      refine z_puti C0 hW hS fl_X10_239 (zT0 hT).1 rfl rfl rfl dX10_bribe_49 (fun H locs u7 e1 hW hS => ?_)
      replace h := z_ly h e1
      clear e1
      refine lv_aload_n hx hb dX10_bribe_52 rfl (lv_at hl 0 rfl) ?_
      refine z_getr (o := 6) C0 hW fl_X10_28 (zk1 (hs 0 (by decide))) rfl (zk3 (hs 0 (by decide)) 2) dX10_bribe_53 ?_
      refine lv_aload_n hx hb dX10_bribe_56 rfl (lv_at hl 0 rfl) ?_
      refine z_getr (o := 6) C0 hW fl_X10_28 (zk1 (hs 0 (by decide))) rfl (zk3 (hs 0 (by decide)) 2) dX10_bribe_57 ?_
      refine z_geti C0 hW fl_X10_211 (zT0 hT).1 rfl dX10_bribe_60 ?_
      refine lv_iload_n hx hb dX10_bribe_63 rfl (lv_at hl 1 rfl) ?_
      refine lv_iadd hx hb dX10_bribe_64 ?_
      refine lv_bipush (v := (7 : Int32)) hx hb dX10_bribe_65 (by decide) ?_
      refine lv_iand hx hb dX10_bribe_67 ?_
      refine z_puti C0 hW hS fl_X10_211 (zT0 hT).1 rfl rfl rfl dX10_bribe_68 (fun H locs u8 e1 hW hS => ?_)
      replace h := z_ly h e1
      clear e1
      refine lv_aload_n hx hb dX10_bribe_71 rfl (lv_at hl 0 rfl) ?_
      refine z_getr (o := 6) C0 hW fl_X10_28 (zk1 (hs 0 (by decide))) rfl (zk3 (hs 0 (by decide)) 2) dX10_bribe_72 ?_
      refine z_geti C0 hW fl_X10_211 (zT0 hT).1 rfl dX10_bribe_75 ?_
      cases h
      exact z_iretT C0 hr hlk hW hS hT dX10_bribe_78
    · replace h := z_f h hc
      clear hc
      cases h
set_option maxRecDepth 100000 in
set_option maxHeartbeats 4000000 in
theorem t_X10_bribe (l : Launch) (D : zD) (A : Nat → Prop) (b : Nat) (G : zG) (q : zq) (hT : zTop G q) (hst : l.stackTraces = false) (a1 : Int32) (u : zU) {E : String} {q' : zq} {u' : zU} (h : f_X10_bribe q a1 u = some (.inl E, q', u')) : z_TX l D A b G yX10_bribe cX10_bribe 2 (some .int) 7 128 [.ref (b + 0), .int a1] q u E q' u' := by
  refine z_enterX (by decide) (Nat.le_of_ble_eq_true rfl) ?_
  intro p e s m below meth c ls C0 hex hml hlk hW hS hl
  have hl : lv_has ls 2 [(0, .ref (b + 0)), (1, .int a1)] := hl
  have hx := C0.1
  have hb := C0.2.1
  have hs := hT.1
  rw [f_X10_bribe_e] at h
  refine lv_iload_n hx hb dX10_bribe_0 rfl (lv_at hl 1 rfl) ?_
  refine lv_iconst (v := (1 : Int32)) hx hb dX10_bribe_1 (by decide) ?_
  refine lv_bipush (v := (7 : Int32)) hx hb dX10_bribe_2 (by decide) ?_
  replace h := z_bxd h
  rcases h with ⟨E1, hq, hE⟩ | ⟨w1, q3, u2, hq, h⟩
  · cases hE
    exact z_csX (As := [.int a1, .int (1 : Int32), .int (7 : Int32)]) C0 hml hl.1 hW hS hex hlk (t_X10_needNumber l D A b G (q) hT hst a1 (1 : Int32) (7 : Int32) u hq) ms_X10_287 ⟨Nat.le_of_ble_eq_true rfl, Nat.le_of_ble_eq_true rfl⟩ ⟨Nat.le_of_ble_eq_true rfl, Nat.le_of_ble_eq_true rfl⟩ rfl rfl (Nat.le_of_ble_eq_true rfl) dX10_bribe_4
  · refine z_csTv (As := [.int a1, .int (1 : Int32), .int (7 : Int32)]) C0 hml hl.1 hW hS (c_X10_needNumber l D A b G (q) hT a1 (1 : Int32) (7 : Int32) u hq) ms_X10_287 ⟨Nat.le_of_ble_eq_true rfl, Nat.le_of_ble_eq_true rfl⟩ rfl rfl (Nat.le_of_ble_eq_true rfl) dX10_bribe_4 (fun H locs hW hS hT => ?_)
    clear hq
    have hs := hT.1
    refine lv_aload_n hx hb dX10_bribe_7 rfl (lv_at hl 0 rfl) ?_
    refine z_getr (o := 6) C0 hW fl_X10_28 (zk1 (hs 0 (by decide))) rfl (zk3 (hs 0 (by decide)) 2) dX10_bribe_8 ?_
    refine z_geti C0 hW fl_X10_239 (zT0 hT).1 rfl dX10_bribe_11 ?_
    refine lv_bipush (v := (10 : Int32)) hx hb dX10_bribe_14 (by decide) ?_
    refine lv_iload_n hx hb dX10_bribe_16 rfl (lv_at hl 1 rfl) ?_
    refine lv_imul hx hb dX10_bribe_17 ?_
    refine lv_icmp_ge (tgt := 32) hx hb dX10_bribe_18 (by decide) (fun hc => ?_) (fun hc => ?_)
    · replace h := z_t h hc
      clear hc
      refine lv_aload_n hx hb dX10_bribe_32 rfl (lv_at hl 0 rfl) ?_
      replace h := z_bd3 h
      obtain ⟨w4, q6, u5, hq, h⟩ := h
      refine z_cvTv (As := []) C0 hml hl.1 hW hS (c_X10_rememberAct l D A b G (q3) hT u2 hq) mv_X10_271 (zk1 (hs 0 (by decide))) ⟨Nat.le_of_ble_eq_true rfl, Nat.le_of_ble_eq_true rfl⟩ rfl rfl (Nat.le_of_ble_eq_true rfl) dX10_bribe_33 (fun H locs hW hS hT => ?_)
      clear hq
      have hs := hT.1
      refine lv_aload_n hx hb dX10_bribe_36 rfl (lv_at hl 0 rfl) ?_
      refine z_getr (o := 6) C0 hW fl_X10_28 (zk1 (hs 0 (by decide))) rfl (zk3 (hs 0 (by decide)) 2) dX10_bribe_37 ?_
      refine lv_dup hx hb dX10_bribe_40 rfl ?_
      refine z_geti C0 hW fl_X10_239 (zT0 hT).1 rfl dX10_bribe_41 ?_
      refine lv_bipush (v := (10 : Int32)) hx hb dX10_bribe_44 (by decide) ?_
      refine lv_iload_n hx hb dX10_bribe_46 rfl (lv_at hl 1 rfl) ?_
      refine lv_imul hx hb dX10_bribe_47 ?_
      refine lv_isub hx hb dX10_bribe_48 ?_
      refine z_puti C0 hW hS fl_X10_239 (zT0 hT).1 rfl rfl rfl dX10_bribe_49 (fun H locs u7 e1 hW hS => ?_)
      replace h := z_ly h e1
      clear e1
      refine lv_aload_n hx hb dX10_bribe_52 rfl (lv_at hl 0 rfl) ?_
      refine z_getr (o := 6) C0 hW fl_X10_28 (zk1 (hs 0 (by decide))) rfl (zk3 (hs 0 (by decide)) 2) dX10_bribe_53 ?_
      refine lv_aload_n hx hb dX10_bribe_56 rfl (lv_at hl 0 rfl) ?_
      refine z_getr (o := 6) C0 hW fl_X10_28 (zk1 (hs 0 (by decide))) rfl (zk3 (hs 0 (by decide)) 2) dX10_bribe_57 ?_
      refine z_geti C0 hW fl_X10_211 (zT0 hT).1 rfl dX10_bribe_60 ?_
      refine lv_iload_n hx hb dX10_bribe_63 rfl (lv_at hl 1 rfl) ?_
      refine lv_iadd hx hb dX10_bribe_64 ?_
      refine lv_bipush (v := (7 : Int32)) hx hb dX10_bribe_65 (by decide) ?_
      refine lv_iand hx hb dX10_bribe_67 ?_
      refine z_puti C0 hW hS fl_X10_211 (zT0 hT).1 rfl rfl rfl dX10_bribe_68 (fun H locs u8 e1 hW hS => ?_)
      replace h := z_ly h e1
      clear e1
      refine lv_aload_n hx hb dX10_bribe_71 rfl (lv_at hl 0 rfl) ?_
      refine z_getr (o := 6) C0 hW fl_X10_28 (zk1 (hs 0 (by decide))) rfl (zk3 (hs 0 (by decide)) 2) dX10_bribe_72 ?_
      refine z_geti C0 hW fl_X10_211 (zT0 hT).1 rfl dX10_bribe_75 ?_
      cases h
    · replace h := z_f h hc
      clear hc
      cases h
      exact z_thrW (k := 9) (tx := "the chest has less") C0 hst hml hl.1 hW hS hT hex hlk tw_266_270 (List.mem_of_getElem? (i := 9) rfl) ⟨Nat.le_of_ble_eq_true rfl, Nat.le_of_ble_eq_true rfl⟩ ⟨Nat.le_of_ble_eq_true rfl, Nat.le_of_ble_eq_true rfl⟩ dX10_bribe_21 dX10_bribe_24 dX10_bribe_25 dX10_bribe_28 dX10_bribe_31
def f_X10_stops_15 (q : zq) : Nat → Int32 → Int32 → Int32 → zU → Option ((String ⊕ Int32) × zq × zU)
  | 0, _, _, _, _ => none
  | n + 1, x1, x2, x3, u =>
    if x1 ≤ x3 then (some (.inr x2, q, u)) else (z_let (u 6 15) (fun z7 => z_let2 (f_X9_draw 6 (q 0) u) (fun r8 u9 => (f_X9_halt 6 (q 0) r8 true u9).bind (fun u10 => (f_X2_add 36 z7 (u10 6 14) (u10 6 17) (u10 6 18) u10).bind (fun u11 => z_let (x2 + (u11 6 18)) (fun z12 => f_X10_stops_15 q n x1 z12 (x3 + (1 : Int32)) u11))))))
theorem f_X10_stops_15_s (q : zq) (n : Nat) (x1 : Int32) (x2 : Int32) (x3 : Int32) (u : zU) : f_X10_stops_15 q (n + 1) x1 x2 x3 u = if x1 ≤ x3 then (some (.inr x2, q, u)) else (z_let (u 6 15) (fun z7 => z_let2 (f_X9_draw 6 (q 0) u) (fun r8 u9 => (f_X9_halt 6 (q 0) r8 true u9).bind (fun u10 => (f_X2_add 36 z7 (u10 6 14) (u10 6 17) (u10 6 18) u10).bind (fun u11 => z_let (x2 + (u11 6 18)) (fun z12 => f_X10_stops_15 q n x1 z12 (x3 + (1 : Int32)) u11)))))) := rfl
def f_X10_stops (q : zq) (a1 : Int32) (u : zU) : Option ((String ⊕ Int32) × zq × zU) :=
  z_bx (f_X10_needNumber (q) a1 (1 : Int32) (60 : Int32) u) (fun w1 q3 u2 => z_b3 (f_X10_rememberAct (q3) u2) (fun w4 q6 u5 => f_X10_stops_15 q6 5000 a1 (0 : Int32) (0 : Int32) u5))
set_option maxRecDepth 100000 in
set_option maxHeartbeats 4000000 in
theorem l_X10_stops_15 {l : Launch} {D : zD} {A : Nat → Prop} {b : Nat} {p : Program} {e : Env} {s : State} {m : MethodId} {args : Array Value} {below : List Frame} {meth : Method} {c : Code} {G : zG} {q : zq} {v : Int32} {q' : zq} {u' : zU} (C0 : z_C p c cX10_stops s m args yX10_stops.cls D A) (hr : meth.sig.returnType = (some .int)) (hml : c.maxLocals = 5) (hlk : meth.locks = false) (hT : zTop G q) : ∀ (n : Nat) (x1 : Int32) (x2 : Int32) (x3 : Int32) (u : zU) (H : Heap) (locs : List Loc) (ls : Array Slot), f_X10_stops_15 q n x1 x2 x3 u = some (.inr v, q', u') → z_W D A b (zg G q) u H → va_S A s.heap H locs → lv_has ls 5 [(0, .ref (b + 0)), (1, .int x1), (2, .int x2), (3, .int x3)] → W p l e { frames := 7, cells := 0, slots := 0, locals := 149 } s m args below meth c H locs 0 0 (z_EndT D A b G below args s (some (.int v)) q' u') (F0 m 15 ls []) := by
  have hx := C0.1
  have hb := C0.2.1
  have hs := hT.1
  intro n
  induction n with
  | zero => intro x1 x2 x3 u H locs ls h hW hS hl; cases h
  | succ n ih =>
    intro x1 x2 x3 u H locs ls h hW hS hl
    rw [f_X10_stops_15_s] at h
    refine lv_iload_n hx hb dX10_stops_15 rfl (lv_at hl 3 rfl) ?_
    refine lv_iload_n hx hb dX10_stops_16 rfl (lv_at hl 1 rfl) ?_
    refine lv_icmp_ge (tgt := 90) hx hb dX10_stops_17 (by decide) (fun hc => ?_) (fun hc => ?_)
    · replace h := z_t h hc
      clear hc
      refine lv_iload_n hx hb dX10_stops_90 rfl (lv_at hl 2 rfl) ?_
      cases h
      exact z_iretT C0 hr hlk hW hS hT dX10_stops_91
    · replace h := z_f h hc
      clear hc
      refine lv_aload_n hx hb dX10_stops_20 rfl (lv_at hl 0 rfl) ?_
      refine z_getr (o := 6) C0 hW fl_X10_28 (zk1 (hs 0 (by decide))) rfl (zk3 (hs 0 (by decide)) 2) dX10_stops_21 ?_
      refine z_geti C0 hW fl_X10_236 (zT0 hT).1 rfl dX10_stops_24 ?_
      refine lv_topi (fun z7 e1 => ?_)
      replace h := z_ly h e1
      clear e1
      refine lv_istore (lv' := [(4, .int z7), (0, .ref (b + 0)), (1, .int x1), (2, .int x2), (3, .int x3)]) hx hb dX10_stops_27 hl (by decide) rfl (fun ls hl => ?_)
      refine lv_aload_n hx hb dX10_stops_29 rfl (lv_at hl 1 rfl) ?_
      refine z_getr (o := 6) C0 hW fl_X10_28 (zk1 (hs 0 (by decide))) rfl (zk3 (hs 0 (by decide)) 2) dX10_stops_30 ?_
      refine lv_aload_n hx hb dX10_stops_33 rfl (lv_at hl 1 rfl) ?_
      refine z_getr (o := 6) C0 hW fl_X10_28 (zk1 (hs 0 (by decide))) rfl (zk3 (hs 0 (by decide)) 2) dX10_stops_34 ?_
      obtain ⟨⟨r8, u9⟩, hq⟩ : ∃ y, f_X9_draw 6 (q 0) u = y := ⟨_, rfl⟩
      replace h := z_lz2 h hq
      refine z_cvi (As := []) C0 hml hl.1 hW hS (c_X9_draw l D A b (zg G q) 6 (q 0) (zT0 hT) u hq) mv_X10_298 (zT0 hT).1 ⟨Nat.le_of_ble_eq_true rfl, Nat.le_of_ble_eq_true rfl⟩ rfl rfl (Nat.le_of_ble_eq_true rfl) dX10_stops_37 (fun H locs hW hS => ?_)
      clear hq
      refine lv_iconst (v := (1 : Int32)) hx hb dX10_stops_40 (by decide) ?_
      replace h := z_bd h
      obtain ⟨u10, hq, h⟩ := h
      refine z_cvv (As := [.int r8, .int (bI true)]) C0 hml hl.1 hW hS (c_X9_halt l D A b (zg G q) 6 (q 0) (zT0 hT) r8 true u9 hq) mv_X10_301 (zT0 hT).1 ⟨Nat.le_of_ble_eq_true rfl, Nat.le_of_ble_eq_true rfl⟩ rfl rfl (Nat.le_of_ble_eq_true rfl) dX10_stops_41 (fun H locs hW hS => ?_)
      clear hq
      refine lv_aload_n hx hb dX10_stops_44 rfl (lv_at hl 1 rfl) ?_
      refine z_getr (o := 36) C0 hW fl_X10_56 (zk1 (hs 0 (by decide))) rfl (zk3 (hs 0 (by decide)) 6) dX10_stops_45 ?_
      refine lv_iload hx hb dX10_stops_48 (lv_at hl 0 rfl) ?_
      refine lv_aload_n hx hb dX10_stops_50 rfl (lv_at hl 1 rfl) ?_
      refine z_getr (o := 6) C0 hW fl_X10_28 (zk1 (hs 0 (by decide))) rfl (zk3 (hs 0 (by decide)) 2) dX10_stops_51 ?_
      refine z_geti C0 hW fl_X10_211 (zT0 hT).1 rfl dX10_stops_54 ?_
      refine lv_aload_n hx hb dX10_stops_57 rfl (lv_at hl 1 rfl) ?_
      refine z_getr (o := 6) C0 hW fl_X10_28 (zk1 (hs 0 (by decide))) rfl (zk3 (hs 0 (by decide)) 2) dX10_stops_58 ?_
      refine z_geti C0 hW fl_X10_305 (zT0 hT).1 rfl dX10_stops_61 ?_
      refine lv_aload_n hx hb dX10_stops_64 rfl (lv_at hl 1 rfl) ?_
      refine z_getr (o := 6) C0 hW fl_X10_28 (zk1 (hs 0 (by decide))) rfl (zk3 (hs 0 (by decide)) 2) dX10_stops_65 ?_
      refine z_geti C0 hW fl_X10_308 (zT0 hT).1 rfl dX10_stops_68 ?_
      replace h := z_bd h
      obtain ⟨u11, hq, h⟩ := h
      refine z_cvv (As := [.int z7, .int (u10 6 14), .int (u10 6 17), .int (u10 6 18)]) C0 hml hl.1 hW hS (c_X2_add l D A b (zg G q) 36 hT.2.2.1 z7 (u10 6 14) (u10 6 17) (u10 6 18) u10 hq) mv_X10_311 hT.2.2.1.1 ⟨Nat.le_of_ble_eq_true rfl, Nat.le_of_ble_eq_true rfl⟩ rfl rfl (Nat.le_of_ble_eq_true rfl) dX10_stops_71 (fun H locs hW hS => ?_)
      clear hq
      refine lv_iload_n hx hb dX10_stops_74 rfl (lv_at hl 3 rfl) ?_
      refine lv_aload_n hx hb dX10_stops_75 rfl (lv_at hl 1 rfl) ?_
      refine z_getr (o := 6) C0 hW fl_X10_28 (zk1 (hs 0 (by decide))) rfl (zk3 (hs 0 (by decide)) 2) dX10_stops_76 ?_
      refine z_geti C0 hW fl_X10_308 (zT0 hT).1 rfl dX10_stops_79 ?_
      refine lv_iadd hx hb dX10_stops_82 ?_
      refine lv_topi (fun z12 e1 => ?_)
      replace h := z_ly h e1
      clear e1
      refine lv_istore_n (lv' := [(2, .int z12), (4, .int z7), (0, .ref (b + 0)), (1, .int x1), (3, .int x3)]) hx hb dX10_stops_83 rfl hl (by decide) rfl (fun ls hl => ?_)
      refine lv_iinc (v := x3 + (1 : Int32)) (lv' := [(3, .int (x3 + (1 : Int32))), (2, .int z12), (4, .int z7), (0, .ref (b + 0)), (1, .int x1)]) hx hb dX10_stops_84 hl (k := 4) rfl rfl (by decide) rfl (fun ls hl => ?_)
      refine lv_goto (tgt := 15) hx hb dX10_stops_87 (by decide) ?_
      exact ih _ _ _ _ _ _ _ h hW hS (lv_sub hl [3, 4, 1, 0] rfl)
theorem f_X10_stops_e (q : zq) (a1 : Int32) (u : zU) : f_X10_stops q a1 u = z_bx (f_X10_needNumber (q) a1 (1 : Int32) (60 : Int32) u) (fun w1 q3 u2 => z_b3 (f_X10_rememberAct (q3) u2) (fun w4 q6 u5 => f_X10_stops_15 q6 5000 a1 (0 : Int32) (0 : Int32) u5)) := rfl
set_option maxRecDepth 100000 in
set_option maxHeartbeats 4000000 in
theorem c_X10_stops (l : Launch) (D : zD) (A : Nat → Prop) (b : Nat) (G : zG) (q : zq) (hT : zTop G q) (a1 : Int32) (u : zU) {v : Int32} {q' : zq} {u' : zU} (h : f_X10_stops q a1 u = some (.inr v, q', u')) : z_MT l D A b G yX10_stops cX10_stops 5 (some .int) 7 149 [.ref (b + 0), .int a1] q u (some (.int v)) q' u' := by
  refine z_enterT (by decide) (Nat.le_of_ble_eq_true rfl) ?_
  intro p e s m below meth c ls C0 hr hml hlk hW hS hl
  have hl : lv_has ls 5 [(0, .ref (b + 0)), (1, .int a1)] := hl
  have hx := C0.1
  have hb := C0.2.1
  have hs := hT.1
  rw [f_X10_stops_e] at h
  refine lv_iload_n hx hb dX10_stops_0 rfl (lv_at hl 1 rfl) ?_
  refine lv_iconst (v := (1 : Int32)) hx hb dX10_stops_1 (by decide) ?_
  refine lv_bipush (v := (60 : Int32)) hx hb dX10_stops_2 (by decide) ?_
  replace h := z_bxd h
  rcases h with ⟨E1, hq, hE⟩ | ⟨w1, q3, u2, hq, h⟩
  · cases hE
  · refine z_csTv (As := [.int a1, .int (1 : Int32), .int (60 : Int32)]) C0 hml hl.1 hW hS (c_X10_needNumber l D A b G (q) hT a1 (1 : Int32) (60 : Int32) u hq) ms_X10_287 ⟨Nat.le_of_ble_eq_true rfl, Nat.le_of_ble_eq_true rfl⟩ rfl rfl (Nat.le_of_ble_eq_true rfl) dX10_stops_4 (fun H locs hW hS hT => ?_)
    clear hq
    have hs := hT.1
    refine lv_aload_n hx hb dX10_stops_7 rfl (lv_at hl 0 rfl) ?_
    replace h := z_bd3 h
    obtain ⟨w4, q6, u5, hq, h⟩ := h
    refine z_cvTv (As := []) C0 hml hl.1 hW hS (c_X10_rememberAct l D A b G (q3) hT u2 hq) mv_X10_271 (zk1 (hs 0 (by decide))) ⟨Nat.le_of_ble_eq_true rfl, Nat.le_of_ble_eq_true rfl⟩ rfl rfl (Nat.le_of_ble_eq_true rfl) dX10_stops_8 (fun H locs hW hS hT => ?_)
    clear hq
    have hs := hT.1
    refine lv_iconst (v := (0 : Int32)) hx hb dX10_stops_11 (by decide) ?_
    refine lv_istore_n (lv' := [(2, .int (0 : Int32)), (0, .ref (b + 0)), (1, .int a1)]) hx hb dX10_stops_12 rfl hl (by decide) rfl (fun ls hl => ?_)
    refine lv_iconst (v := (0 : Int32)) hx hb dX10_stops_13 (by decide) ?_
    refine lv_istore_n (lv' := [(3, .int (0 : Int32)), (2, .int (0 : Int32)), (0, .ref (b + 0)), (1, .int a1)]) hx hb dX10_stops_14 rfl hl (by decide) rfl (fun ls hl => ?_)
    exact l_X10_stops_15 C0 hr hml hlk hT 5000 _ _ _ _ _ _ _ h hW hS (lv_sub hl [2, 3, 1, 0] rfl)
set_option maxRecDepth 100000 in
set_option maxHeartbeats 4000000 in
theorem lx_X10_stops_15 {l : Launch} {D : zD} {A : Nat → Prop} {b : Nat} {p : Program} {e : Env} {s : State} {m : MethodId} {args : Array Value} {below : List Frame} {meth : Method} {c : Code} {G : zG} {q : zq} {E : String} {q' : zq} {u' : zU} (C0 : z_C p c cX10_stops s m args yX10_stops.cls D A) (hex : ∀ x ∈ c.exceptionTable.toList, False) (hml : c.maxLocals = 5) (hlk : meth.locks = false) (hT : zTop G q) (hst : l.stackTraces = false) : ∀ (n : Nat) (x1 : Int32) (x2 : Int32) (x3 : Int32) (u : zU) (H : Heap) (locs : List Loc) (ls : Array Slot), f_X10_stops_15 q n x1 x2 x3 u = some (.inl E, q', u') → z_W D A b (zg G q) u H → va_S A s.heap H locs → lv_has ls 5 [(0, .ref (b + 0)), (1, .int x1), (2, .int x2), (3, .int x3)] → W p l e { frames := 7, cells := 1, slots := 6, locals := 149 } s m args below meth c H locs 0 0 (z_EndX D A b G below args s E q' u') (F0 m 15 ls []) := by
  have hx := C0.1
  have hb := C0.2.1
  have hs := hT.1
  intro n
  induction n with
  | zero => intro x1 x2 x3 u H locs ls h hW hS hl; cases h
  | succ n ih =>
    intro x1 x2 x3 u H locs ls h hW hS hl
    rw [f_X10_stops_15_s] at h
    refine lv_iload_n hx hb dX10_stops_15 rfl (lv_at hl 3 rfl) ?_
    refine lv_iload_n hx hb dX10_stops_16 rfl (lv_at hl 1 rfl) ?_
    refine lv_icmp_ge (tgt := 90) hx hb dX10_stops_17 (by decide) (fun hc => ?_) (fun hc => ?_)
    · replace h := z_t h hc
      clear hc
      refine lv_iload_n hx hb dX10_stops_90 rfl (lv_at hl 2 rfl) ?_
      cases h
    · replace h := z_f h hc
      clear hc
      refine lv_aload_n hx hb dX10_stops_20 rfl (lv_at hl 0 rfl) ?_
      refine z_getr (o := 6) C0 hW fl_X10_28 (zk1 (hs 0 (by decide))) rfl (zk3 (hs 0 (by decide)) 2) dX10_stops_21 ?_
      refine z_geti C0 hW fl_X10_236 (zT0 hT).1 rfl dX10_stops_24 ?_
      refine lv_topi (fun z7 e1 => ?_)
      replace h := z_ly h e1
      clear e1
      refine lv_istore (lv' := [(4, .int z7), (0, .ref (b + 0)), (1, .int x1), (2, .int x2), (3, .int x3)]) hx hb dX10_stops_27 hl (by decide) rfl (fun ls hl => ?_)
      refine lv_aload_n hx hb dX10_stops_29 rfl (lv_at hl 1 rfl) ?_
      refine z_getr (o := 6) C0 hW fl_X10_28 (zk1 (hs 0 (by decide))) rfl (zk3 (hs 0 (by decide)) 2) dX10_stops_30 ?_
      refine lv_aload_n hx hb dX10_stops_33 rfl (lv_at hl 1 rfl) ?_
      refine z_getr (o := 6) C0 hW fl_X10_28 (zk1 (hs 0 (by decide))) rfl (zk3 (hs 0 (by decide)) 2) dX10_stops_34 ?_
      obtain ⟨⟨r8, u9⟩, hq⟩ : ∃ y, f_X9_draw 6 (q 0) u = y := ⟨_, rfl⟩
      replace h := z_lz2 h hq
      refine z_cvi (As := []) C0 hml hl.1 hW hS (c_X9_draw l D A b (zg G q) 6 (q 0) (zT0 hT) u hq) mv_X10_298 (zT0 hT).1 ⟨Nat.le_of_ble_eq_true rfl, Nat.le_of_ble_eq_true rfl⟩ rfl rfl (Nat.le_of_ble_eq_true rfl) dX10_stops_37 (fun H locs hW hS => ?_)
      clear hq
      refine lv_iconst (v := (1 : Int32)) hx hb dX10_stops_40 (by decide) ?_
      replace h := z_bd h
      obtain ⟨u10, hq, h⟩ := h
      refine z_cvv (As := [.int r8, .int (bI true)]) C0 hml hl.1 hW hS (c_X9_halt l D A b (zg G q) 6 (q 0) (zT0 hT) r8 true u9 hq) mv_X10_301 (zT0 hT).1 ⟨Nat.le_of_ble_eq_true rfl, Nat.le_of_ble_eq_true rfl⟩ rfl rfl (Nat.le_of_ble_eq_true rfl) dX10_stops_41 (fun H locs hW hS => ?_)
      clear hq
      refine lv_aload_n hx hb dX10_stops_44 rfl (lv_at hl 1 rfl) ?_
      refine z_getr (o := 36) C0 hW fl_X10_56 (zk1 (hs 0 (by decide))) rfl (zk3 (hs 0 (by decide)) 6) dX10_stops_45 ?_
      refine lv_iload hx hb dX10_stops_48 (lv_at hl 0 rfl) ?_
      refine lv_aload_n hx hb dX10_stops_50 rfl (lv_at hl 1 rfl) ?_
      refine z_getr (o := 6) C0 hW fl_X10_28 (zk1 (hs 0 (by decide))) rfl (zk3 (hs 0 (by decide)) 2) dX10_stops_51 ?_
      refine z_geti C0 hW fl_X10_211 (zT0 hT).1 rfl dX10_stops_54 ?_
      refine lv_aload_n hx hb dX10_stops_57 rfl (lv_at hl 1 rfl) ?_
      refine z_getr (o := 6) C0 hW fl_X10_28 (zk1 (hs 0 (by decide))) rfl (zk3 (hs 0 (by decide)) 2) dX10_stops_58 ?_
      refine z_geti C0 hW fl_X10_305 (zT0 hT).1 rfl dX10_stops_61 ?_
      refine lv_aload_n hx hb dX10_stops_64 rfl (lv_at hl 1 rfl) ?_
      refine z_getr (o := 6) C0 hW fl_X10_28 (zk1 (hs 0 (by decide))) rfl (zk3 (hs 0 (by decide)) 2) dX10_stops_65 ?_
      refine z_geti C0 hW fl_X10_308 (zT0 hT).1 rfl dX10_stops_68 ?_
      replace h := z_bd h
      obtain ⟨u11, hq, h⟩ := h
      refine z_cvv (As := [.int z7, .int (u10 6 14), .int (u10 6 17), .int (u10 6 18)]) C0 hml hl.1 hW hS (c_X2_add l D A b (zg G q) 36 hT.2.2.1 z7 (u10 6 14) (u10 6 17) (u10 6 18) u10 hq) mv_X10_311 hT.2.2.1.1 ⟨Nat.le_of_ble_eq_true rfl, Nat.le_of_ble_eq_true rfl⟩ rfl rfl (Nat.le_of_ble_eq_true rfl) dX10_stops_71 (fun H locs hW hS => ?_)
      clear hq
      refine lv_iload_n hx hb dX10_stops_74 rfl (lv_at hl 3 rfl) ?_
      refine lv_aload_n hx hb dX10_stops_75 rfl (lv_at hl 1 rfl) ?_
      refine z_getr (o := 6) C0 hW fl_X10_28 (zk1 (hs 0 (by decide))) rfl (zk3 (hs 0 (by decide)) 2) dX10_stops_76 ?_
      refine z_geti C0 hW fl_X10_308 (zT0 hT).1 rfl dX10_stops_79 ?_
      refine lv_iadd hx hb dX10_stops_82 ?_
      refine lv_topi (fun z12 e1 => ?_)
      replace h := z_ly h e1
      clear e1
      refine lv_istore_n (lv' := [(2, .int z12), (4, .int z7), (0, .ref (b + 0)), (1, .int x1), (3, .int x3)]) hx hb dX10_stops_83 rfl hl (by decide) rfl (fun ls hl => ?_)
      refine lv_iinc (v := x3 + (1 : Int32)) (lv' := [(3, .int (x3 + (1 : Int32))), (2, .int z12), (4, .int z7), (0, .ref (b + 0)), (1, .int x1)]) hx hb dX10_stops_84 hl (k := 4) rfl rfl (by decide) rfl (fun ls hl => ?_)
      refine lv_goto (tgt := 15) hx hb dX10_stops_87 (by decide) ?_
      exact ih _ _ _ _ _ _ _ h hW hS (lv_sub hl [3, 4, 1, 0] rfl)
set_option maxRecDepth 100000 in
set_option maxHeartbeats 4000000 in
theorem t_X10_stops (l : Launch) (D : zD) (A : Nat → Prop) (b : Nat) (G : zG) (q : zq) (hT : zTop G q) (hst : l.stackTraces = false) (a1 : Int32) (u : zU) {E : String} {q' : zq} {u' : zU} (h : f_X10_stops q a1 u = some (.inl E, q', u')) : z_TX l D A b G yX10_stops cX10_stops 5 (some .int) 7 149 [.ref (b + 0), .int a1] q u E q' u' := by
  refine z_enterX (by decide) (Nat.le_of_ble_eq_true rfl) ?_
  intro p e s m below meth c ls C0 hex hml hlk hW hS hl
  have hl : lv_has ls 5 [(0, .ref (b + 0)), (1, .int a1)] := hl
  have hx := C0.1
  have hb := C0.2.1
  have hs := hT.1
  rw [f_X10_stops_e] at h
  refine lv_iload_n hx hb dX10_stops_0 rfl (lv_at hl 1 rfl) ?_
  refine lv_iconst (v := (1 : Int32)) hx hb dX10_stops_1 (by decide) ?_
  refine lv_bipush (v := (60 : Int32)) hx hb dX10_stops_2 (by decide) ?_
  replace h := z_bxd h
  rcases h with ⟨E1, hq, hE⟩ | ⟨w1, q3, u2, hq, h⟩
  · cases hE
    exact z_csX (As := [.int a1, .int (1 : Int32), .int (60 : Int32)]) C0 hml hl.1 hW hS hex hlk (t_X10_needNumber l D A b G (q) hT hst a1 (1 : Int32) (60 : Int32) u hq) ms_X10_287 ⟨Nat.le_of_ble_eq_true rfl, Nat.le_of_ble_eq_true rfl⟩ ⟨Nat.le_of_ble_eq_true rfl, Nat.le_of_ble_eq_true rfl⟩ rfl rfl (Nat.le_of_ble_eq_true rfl) dX10_stops_4
  · refine z_csTv (As := [.int a1, .int (1 : Int32), .int (60 : Int32)]) C0 hml hl.1 hW hS (c_X10_needNumber l D A b G (q) hT a1 (1 : Int32) (60 : Int32) u hq) ms_X10_287 ⟨Nat.le_of_ble_eq_true rfl, Nat.le_of_ble_eq_true rfl⟩ rfl rfl (Nat.le_of_ble_eq_true rfl) dX10_stops_4 (fun H locs hW hS hT => ?_)
    clear hq
    have hs := hT.1
    refine lv_aload_n hx hb dX10_stops_7 rfl (lv_at hl 0 rfl) ?_
    replace h := z_bd3 h
    obtain ⟨w4, q6, u5, hq, h⟩ := h
    refine z_cvTv (As := []) C0 hml hl.1 hW hS (c_X10_rememberAct l D A b G (q3) hT u2 hq) mv_X10_271 (zk1 (hs 0 (by decide))) ⟨Nat.le_of_ble_eq_true rfl, Nat.le_of_ble_eq_true rfl⟩ rfl rfl (Nat.le_of_ble_eq_true rfl) dX10_stops_8 (fun H locs hW hS hT => ?_)
    clear hq
    have hs := hT.1
    refine lv_iconst (v := (0 : Int32)) hx hb dX10_stops_11 (by decide) ?_
    refine lv_istore_n (lv' := [(2, .int (0 : Int32)), (0, .ref (b + 0)), (1, .int a1)]) hx hb dX10_stops_12 rfl hl (by decide) rfl (fun ls hl => ?_)
    refine lv_iconst (v := (0 : Int32)) hx hb dX10_stops_13 (by decide) ?_
    refine lv_istore_n (lv' := [(3, .int (0 : Int32)), (2, .int (0 : Int32)), (0, .ref (b + 0)), (1, .int a1)]) hx hb dX10_stops_14 rfl hl (by decide) rfl (fun ls hl => ?_)
    exact lx_X10_stops_15 C0 hex hml hlk hT hst 5000 _ _ _ _ _ _ _ h hW hS (lv_sub hl [2, 3, 1, 0] rfl)
def f_X10_back (q : zq)  (u : zU) : Option (Bool × zq × zU) :=
  if (u 0 9) = 0 then (some (false, q, u)) else (z_b3 (f_X10_goTo (q) 12 u) (fun w1 q3 u2 => z_let (f_X0_forget (q3) u2) (fun u4 => some (true, q3, u4))))
theorem f_X10_back_e (q : zq)  (u : zU) : f_X10_back q u = if (u 0 9) = 0 then (some (false, q, u)) else (z_b3 (f_X10_goTo (q) 12 u) (fun w1 q3 u2 => z_let (f_X0_forget (q3) u2) (fun u4 => some (true, q3, u4)))) := rfl
set_option maxRecDepth 100000 in
set_option maxHeartbeats 4000000 in
theorem c_X10_back (l : Launch) (D : zD) (A : Nat → Prop) (b : Nat) (G : zG) (q : zq) (hT : zTop G q)  (u : zU) {v : Bool} {q' : zq} {u' : zU} (h : f_X10_back q u = some (v, q', u')) : z_MT l D A b G yX10_back cX10_back 1 (some .boolean) 3 82 [.ref (b + 0)] q u (some (.int (bI v))) q' u' := by
  refine z_enterT (by decide) (Nat.le_of_ble_eq_true rfl) ?_
  intro p e s m below meth c ls C0 hr hml hlk hW hS hl
  have hl : lv_has ls 1 [(0, .ref (b + 0))] := hl
  have hx := C0.1
  have hb := C0.2.1
  have hs := hT.1
  rw [f_X10_back_e] at h
  refine lv_aload_n hx hb dX10_back_0 rfl (lv_at hl 0 rfl) ?_
  refine z_geti C0 hW fl_X10_74 (zk1 (hs 0 (by decide))) rfl dX10_back_1 ?_
  refine lv_if_ne (tgt := 9) hx hb dX10_back_4 (by decide) (fun hc => ?_) (fun hc => ?_)
  · replace h := z_f h hc
    clear hc
    refine lv_aload_n hx hb dX10_back_9 rfl (lv_at hl 0 rfl) ?_
    refine lv_aload_n hx hb dX10_back_10 rfl (lv_at hl 0 rfl) ?_
    refine z_getr (o := 208) C0 hW fl_X10_70 (zk1 (hs 0 (by decide))) rfl (zk3 (hs 0 (by decide)) 8) dX10_back_11 ?_
    replace h := z_bd3 h
    obtain ⟨w1, q3, u2, hq, h⟩ := h
    refine z_cvTv (As := [.ref (b + 208)]) C0 hml hl.1 hW hS (c_X10_goTo l D A b G (q) 12 hT (by decide) u hq) mv_X10_321 (zk1 (hs 0 (by decide))) ⟨Nat.le_of_ble_eq_true rfl, Nat.le_of_ble_eq_true rfl⟩ rfl rfl (Nat.le_of_ble_eq_true rfl) dX10_back_14 (fun H locs hW hS hT => ?_)
    clear hq
    have hs := hT.1
    refine lv_aload_n hx hb dX10_back_17 rfl (lv_at hl 0 rfl) ?_
    refine z_getr (o := 38) C0 hW fl_X10_63 (zk1 (hs 0 (by decide))) rfl (zk3 (hs 0 (by decide)) 7) dX10_back_18 ?_
    obtain ⟨u4, hq⟩ : ∃ y, f_X0_forget (q3) u2 = y := ⟨_, rfl⟩
    replace h := z_lz h hq
    refine z_cvv (As := []) C0 hml hl.1 hW hS (c_X0_forget l D A b G (q3) hT u2 hq) mv_X10_109 (zk1 (hs 38 (by decide))) ⟨Nat.le_of_ble_eq_true rfl, Nat.le_of_ble_eq_true rfl⟩ rfl rfl (Nat.le_of_ble_eq_true rfl) dX10_back_21 (fun H locs hW hS => ?_)
    clear hq
    refine lv_iconst (v := (1 : Int32)) hx hb dX10_back_24 (by decide) ?_
    cases h
    exact z_zretT (x := true) C0 hr hlk hW hS hT dX10_back_25
  · replace h := z_t h hc
    clear hc
    refine lv_iconst (v := (0 : Int32)) hx hb dX10_back_7 (by decide) ?_
    cases h
    exact z_zretT (x := false) C0 hr hlk hW hS hT dX10_back_8
