/-! MACHINE, 6: law(x, out) -/
theorem c_L_lawR (l : Launch) (D : zD) (A1 : Nat → Prop) (b ob : Nat) (dJ : ClassId) (G : zG) (q : zq) (hT : zTop G q) (u : zU) {v : Int32} (h : ∀ n, 222 ≤ n → ∃ (q' : zq) (u' : zU), f_X10_law n q u = some (.inr v, q', u')) {Φ : zG → zq → zU → Prop} (hΦ : ∀ n G' q' u', 222 ≤ n → (∀ r, (G r).1 ≠ 0 → r < n) → f_X10_law n q u = some (.inr v, q', u') → Φ G' q' u') : wM l D A1 b ob dJ yL_law cL_law 3 [(0, 8, 11, 13)] [.ref (b + 0), .ref ob] G q u 0 (some v) Φ := by
  refine w_enter (by decide) (Nat.le_of_ble_eq_true rfl) ?_
  intro p e s m below meth c ls C hW hO hl
  have hl : lv_has ls 3 [(0, .ref (b + 0)), (1, .ref ob)] := hl
  have hx := C.1.1
  have hb := C.1.2.1
  refine lv_aload_n hx hb dL_law_0 rfl (lv_at hl 1 rfl) ?_
  refine lv_iconst (v := (0 : Int32)) hx hb dL_law_1 (by decide) ?_
  refine lv_aload_n hx hb dL_law_2 rfl (lv_at hl 0 rfl) ?_
  have hsz := hW.sz (zk1 (hT.1 0 (by decide)))
  refine zL_cv (R := wRm) (cells := 0) (slots := 0) (rest := [.int 0, .ref ob]) (r0 := 0) (As := []) C.1 C.2.2.2.2.1 hl.1 hW va_S.rf (c_X10_law l D A1 b G (s.heap.size - b) q hT u h) z_blindN (fun U hU hW2 => ⟨⟨rfl, (C.k hU hW2).1, by rw [hU]; exact hW⟩, (C.k hU hW2).2, by rw [hU]; exact hsz, by rw [hU]; exact C.2.2.2.2.2.2.2.2⟩) mv_L_17 (zk1 (hT.1 0 (by decide))) ⟨Nat.le_of_ble_eq_true rfl, Nat.le_of_ble_eq_true rfl⟩ ⟨by decide, by decide⟩ rfl rfl (Nat.le_of_ble_eq_true rfl) dL_law_3 (fun _ h => Or.inl h) (v := some (.int v)) (Ψ := fun H => ∃ G' q2 u2, z_W D A1 b (zg G' q2) u2 H ∧ zTop G' q2 ∧ Φ G' q2 u2)
    (fun st0 o t h => ?_) (fun H1 locs1 h1 h2 h3 h4 => ?_)
  · obtain ⟨n, G', q', u', e1, e2, e3, e4, e5, e6, e7⟩ := h
    exact ⟨e1, ⟨G', q', u', e5, e7, hΦ n G' q' u' e2 e3 e4⟩, e6⟩
  · exact w_ok C h4 h1 (w_out hO C.2.2.2.2.2.2.2.1 h3) rfl (fun w hw => (Option.some.inj hw).symm) (by decide) (by decide) dL_law_6 dL_law_7 dL_law_8 rfl dL_law_14 dL_law_15
theorem c_L_lawX (l : Launch) (hst : l.stackTraces = false) (D : zD) (A1 : Nat → Prop) (b ob : Nat) (dJ : ClassId) (G : zG) (q : zq) (hT : zTop G q) (u : zU) {q' : zq} {u' : zU} (h : f_X10_law 222 q u = some (.inl eIA, q', u')) {Φ : zG → zq → zU → Prop} (hΦ : Φ G q' u') : wM l D A1 b ob dJ yL_law cL_law 3 [(0, 8, 11, 13)] [.ref (b + 0), .ref ob] G q u 1 none Φ := by
  refine w_enter (by decide) (Nat.le_of_ble_eq_true rfl) ?_
  intro p e s m below meth c ls C hW hO hl
  have hl : lv_has ls 3 [(0, .ref (b + 0)), (1, .ref ob)] := hl
  have hx := C.1.1
  have hb := C.1.2.1
  refine lv_aload_n hx hb dL_law_0 rfl (lv_at hl 1 rfl) ?_
  refine lv_iconst (v := (0 : Int32)) hx hb dL_law_1 (by decide) ?_
  refine lv_aload_n hx hb dL_law_2 rfl (lv_at hl 0 rfl) ?_
  refine w_cTX (As := []) C hT hW hO hl.1 (t_X10_law l D A1 b G q hT hst u h) mv_L_17 ⟨Nat.le_of_ble_eq_true rfl, Nat.le_of_ble_eq_true rfl⟩ rfl rfl dL_law_3 hΦ fun ce q9 H1 locs1 h1 h2 h3 g1 g2 g3 => ?_
  refine w_catch1 C (by decide) w_cl_L_13 (by decide) (by decide) g1 g2 g3 ?_
  refine lv_astore_n hx hb dL_law_11 rfl hl (by decide) rfl (fun ls hl => ?_)
  exact w_no C h3 h1 h2 rfl (by decide) (by decide) (by decide) dL_law_12 dL_law_13
